/-! What stands below belongs to the element; R of two elements; sums over lists of elements. -/
section S
variable {n : Nat} {A : Nat → Nat → Int} {s t : Nat} {u v w z : List Nat}
/-- what is left of a word without letters, and one letter behind it -/
theorem sub_dn (hok : cx_ok n A) (zL : cx_L n z) (hs : s < n) (hu : cx_L n u) (h : ∃ x, x.Sublist z ∧ cx_g n A x = cx_g n A u) (hd : dn n A u s) : ∃ x, x.Sublist z ∧ cx_g n A x = cx_g n A (u ++ [s]) := by
  obtain ⟨x, h1, h2⟩ := h
  have xL : cx_L n x := fun r hr => zL r (h1.subset hr)
  obtain ⟨i, hi, hg⟩ := cx_exch hok hs xL ((dn_g h2 s).mpr hd)
  exact ⟨x.eraseIdx i, (List.eraseIdx_sublist x i).trans h1, hg.symm.trans (cx_g_ap1 [s] h2)⟩
/-- R has the number 1 at its highest power, of what stands below -/
theorem rwl_1 (hok : cx_ok n A) : ∀ (r : List Nat), cx_L n r → cx_l n A r.reverse = r.length → ∀ u, cx_L n u → (∃ x, x.Sublist r.reverse ∧ cx_g n A x = cx_g n A u) → cx_l n A u ≤ r.length ∧ rwl n A r u (r.length - cx_l n A u) = 1 := by
  intro r
  induction r with
  | nil =>
    intro _ _ u hu h
    obtain ⟨x, h1, h2⟩ := h
    have h0 : cx_l n A u = 0 := by
      rw [← cx_l_eq h2, List.sublist_nil.mp h1]
      exact cx_l_nil
    refine ⟨by omega, ?_⟩
    show cii (cx_l n A u = 0) _ _ = 1
    rw [cii_p h0, if_pos (by show 0 - cx_l n A u = 0; omega)]
  | cons s r ih =>
    intro hr hl u hu h
    have hs := cx_L_hd hr
    have rL := cx_L_tl hr
    rw [List.reverse_cons] at hl h
    rw [List.length_cons] at hl ⊢
    have rl : cx_l n A r.reverse = r.length := by
      have h1 := cx_l_len (A := A) (cx_L_rev rL)
      rw [List.length_reverse] at h1
      rcases cx_rstep hok (cx_L_rev rL) hs with h2 | h2 <;> omega
    have usL : cx_L n (u ++ [s]) := cx_L_app hu (cx_L_1 hs)
    have two : (∃ x, x.Sublist r.reverse ∧ cx_g n A x = cx_g n A u) ∨ ∃ x, x.Sublist r.reverse ∧ cx_g n A x = cx_g n A (u ++ [s]) := by
      obtain ⟨x, h1, h2⟩ := h
      rcases sub_snoc h1 with h3 | ⟨x', rfl, h3⟩
      · exact Or.inl ⟨x, h3, h2⟩
      · refine Or.inr ⟨x', h3, ?_⟩
        have := cx_g_ap1 [s] h2
        rw [cx_g_sr hok hs] at this
        exact this
    by_cases hd : dn n A u s
    · have l1 := dn_1 hok hu hs hd
      have hx : ∃ x, x.Sublist r.reverse ∧ cx_g n A x = cx_g n A (u ++ [s]) := by
        rcases two with h1 | h1
        · exact sub_dn hok (cx_L_rev rL) hs hu h1 hd
        · exact h1
      obtain ⟨i1, i2⟩ := ih rL rl (u ++ [s]) usL hx
      refine ⟨by omega, ?_⟩
      have e1 : rwl n A (s :: r) u (r.length + 1 - cx_l n A u) = rwl n A r (u ++ [s]) (r.length + 1 - cx_l n A u) := cii_p hd
      rw [e1, show r.length + 1 - cx_l n A u = r.length - cx_l n A (u ++ [s]) by omega]
      exact i2
    · have up := up_1 hok hu hs hd
      have hx : ∃ x, x.Sublist r.reverse ∧ cx_g n A x = cx_g n A u := by
        rcases two with h1 | h1
        · exact h1
        · obtain ⟨x, a1, a2⟩ := sub_dn hok (cx_L_rev rL) hs usL h1 ((dn_dn hok hu hs).mpr hd)
          exact ⟨x, a1, a2.trans (cx_g_sr hok hs u)⟩
      obtain ⟨i1, i2⟩ := ih rL rl u hu hx
      refine ⟨by omega, ?_⟩
      have e1 : ∀ k, rwl n A (s :: r) u k = qs (rwl n A r u) k - rwl n A r u k + qs (rwl n A r (u ++ [s])) k := fun k => cii_n hd
      rw [e1, show r.length + 1 - cx_l n A u = (r.length - cx_l n A u) + 1 by omega]
      show rwl n A r u (r.length - cx_l n A u) - rwl n A r u (r.length - cx_l n A u + 1) + rwl n A r (u ++ [s]) (r.length - cx_l n A u) = 1
      rw [i2, rwl_dg hok rL hu (by omega), rwl_dg hok rL usL (by omega)]
      rfl
/-- unlike least words of one element have the same below -/
theorem sbw_un (hok : cx_ok n A) {w w' : List Nat} (hw : cx_L n w) (hw' : cx_L n w') (hl : cx_l n A w = w.length) (hl' : cx_l n A w' = w'.length) (hg : cx_g n A w = cx_g n A w') (hu : cx_L n u) (h : sbw n A u w) : sbw n A u w' := by
  apply Classical.byContradiction
  intro hno
  have h1 := rwl_1 hok w.reverse (cx_L_rev hw) (by rw [List.reverse_reverse, List.length_reverse]; exact hl) u hu (by rw [List.reverse_reverse]; exact h)
  have h2 := rww_un hok hw hw' hl hl' hg hu (w.reverse.length - cx_l n A u)
  have h3 := rww_sup hok hw' hu (fun x hx hgx => hno ⟨x, hx, hgx⟩) (w.reverse.length - cx_l n A u)
  rw [h3] at h2
  have h4 : rww n A w u (w.reverse.length - cx_l n A u) = 1 := h1.2
  rw [h2] at h4
  exact absurd h4 (by decide)
/-- a least word of an element -/
noncomputable def rdw (n : Nat) (A : Nat → Nat → Int) (x : List Nat) : List Nat := Classical.epsilon (fun z => cx_L n z ∧ cx_g n A z = cx_g n A x ∧ cx_l n A z = z.length)
theorem rdw_sp (hx : cx_L n u) : cx_L n (rdw n A u) ∧ cx_g n A (rdw n A u) = cx_g n A u ∧ cx_l n A (rdw n A u) = (rdw n A u).length := by
  obtain ⟨y, h1, h2, h3⟩ := cx_l_w (A := A) hx
  exact Classical.epsilon_spec (p := fun z => cx_L n z ∧ cx_g n A z = cx_g n A u ∧ cx_l n A z = z.length) ⟨y, h1, h3, by rw [cx_l_eq h3, h2]⟩
theorem rdw_g (h : cx_g n A u = cx_g n A v) : rdw n A u = rdw n A v := by
  unfold rdw
  rw [h]
/-- u stands below x -/
def sbe (n : Nat) (A : Nat → Nat → Int) (u x : List Nat) : Prop := sbw n A u (rdw n A x)
theorem sbe_w (hok : cx_ok n A) (hu : cx_L n u) (hz : cx_L n z) (hl : cx_l n A z = z.length) (hw : cx_L n w) (hg : cx_g n A z = cx_g n A w) : sbe n A u w ↔ sbw n A u z := by
  obtain ⟨a1, a2, a3⟩ := rdw_sp (A := A) hw
  exact ⟨fun h => sbw_un hok a1 hz a3 hl (a2.trans hg.symm) hu h, fun h => sbw_un hok hz a1 hl a3 (hg.trans a2.symm) hu h⟩
theorem sbe_g1 (hg : cx_g n A u = cx_g n A v) : sbe n A u w ↔ sbe n A v w := by
  unfold sbe sbw
  rw [hg]
theorem sbe_g2 (hg : cx_g n A v = cx_g n A w) : sbe n A u v ↔ sbe n A u w := by
  unfold sbe
  rw [rdw_g hg]
/-- R of two elements -/
noncomputable def Rx (n : Nat) (A : Nat → Nat → Int) (x : List Nat) : List Nat → Nat → Int := rww n A (rdw n A x)
theorem Rx_w (hok : cx_ok n A) (hz : cx_L n z) (hl : cx_l n A z = z.length) (hw : cx_L n w) (hg : cx_g n A z = cx_g n A w) (hu : cx_L n u) (k : Nat) : Rx n A w u k = rww n A z u k := by
  obtain ⟨a1, a2, a3⟩ := rdw_sp (A := A) hw
  exact rww_un hok a1 hz a3 hl (a2.trans hg.symm) hu k
theorem Rx_g (hg : cx_g n A v = cx_g n A w) : Rx n A v = Rx n A w := by
  unfold Rx
  rw [rdw_g hg]
theorem Rx_eg (x : List Nat) : egl n A (Rx n A x) := rww_eg _
theorem Rx_0 (hok : cx_ok n A) (hw : cx_L n w) (hu : cx_L n u) (h : ¬ sbe n A u w) (k : Nat) : Rx n A w u k = 0 := rww_sup hok (rdw_sp (A := A) hw).1 hu (fun x hx hg => h ⟨x, hx, hg⟩) k
theorem Rx_u (hok : cx_ok n A) (hw : cx_L n w) (hu : cx_L n u) (hl : cx_l n A w ≤ cx_l n A u) (k : Nat) : Rx n A w u k = cii (cx_g n A u = cx_g n A w) (if k = 0 then 1 else 0) 0 := by
  obtain ⟨a1, a2, a3⟩ := rdw_sp (A := A) hw
  have := rww_0 hok (rdw n A w).reverse (cx_L_rev a1) (by rw [List.reverse_reverse, List.length_reverse]; exact a3) u hu (by rw [List.length_reverse, ← a3, cx_l_eq a2]; exact hl) k
  rw [List.reverse_reverse, a2] at this
  exact this
theorem Rx_up (hok : cx_ok n A) (hx : cx_L n w) (hs : s < n) (hd : ¬ dn n A w s) (hu : cx_L n u) (k : Nat) : Rx n A (w ++ [s]) u k = rho n A s (Rx n A w) u k := by
  obtain ⟨a1, a2, a3⟩ := rdw_sp (A := A) hx
  have up := up_1 hok hx hs hd
  have g1 : cx_g n A (rdw n A w ++ [s]) = cx_g n A (w ++ [s]) := cx_g_ap1 [s] a2
  rw [Rx_w hok (cx_L_app a1 (cx_L_1 hs)) (by rw [cx_l_eq g1, up, List.length_append, ← a3, cx_l_eq a2]; rfl) (cx_L_app hx (cx_L_1 hs)) g1 hu, rww_s]
  rfl
/-- rho twice -/
theorem rho_2 (hok : cx_ok n A) {F : List Nat → Nat → Int} (hF : egl n A F) (hu : cx_L n u) (hs : s < n) (k : Nat) : rho n A s (rho n A s F) u k = qs (rho n A s F u) k - rho n A s F u k + qs (F u) k := by
  have h : rho n A s (rho n A s F) u k - (qs (rho n A s F u) k - rho n A s F u k) = qs (F u) k := (rs_q hok hF hu hs k).2
  omega
theorem Rx_dn (hok : cx_ok n A) (hx : cx_L n w) (hs : s < n) (hd : dn n A w s) (hu : cx_L n u) (k : Nat) : rho n A s (Rx n A w) u k = qs (Rx n A w u) k - Rx n A w u k + qs (Rx n A (w ++ [s]) u) k := by
  have xL : cx_L n (w ++ [s]) := cx_L_app hx (cx_L_1 hs)
  have nd : ¬ dn n A (w ++ [s]) s := fun h => (dn_dn hok hx hs).mp h hd
  have e : ∀ v, cx_L n v → ∀ k, Rx n A w v k = rho n A s (Rx n A (w ++ [s])) v k := fun v hv k => by
    rw [← Rx_up hok xL hs nd hv, Rx_g (cx_g_sr hok hs w)]
  rw [rho_cg e hs hu, rho_2 hok (Rx_eg _) hu hs, qs_cg (fun k => (e u hu k).symm), ← e u hu]
/-- sums -/
theorem cx_swap (m k : Nat) (h : Nat → Nat → Int) : cx_sum m (fun i => cx_sum k (fun j => h i j)) = cx_sum k (fun j => cx_sum m (fun i => h i j)) := by
  induction m with
  | zero => exact (cx_sum_z k).symm
  | succ m ih =>
    rw [cx_sum, ih, ← cx_sum_add]
    exact cx_sum_eq (fun j _ => rfl)
theorem cx_one1 {m i0 : Nat} {f : Nat → Int} (h0 : i0 < m) (h : ∀ i, i < m → i ≠ i0 → f i = 0) : cx_sum m f = f i0 := by
  induction m with
  | zero => omega
  | succ m ih =>
    rw [cx_sum]
    by_cases e : i0 = m
    · subst e
      rw [cx_sum_eq (g := fun _ => 0) (fun j hj => h j (by omega) (by omega)), cx_sum_z, Int.zero_add]
    · rw [ih (by omega) (fun i hi hn => h i (by omega) hn), h m (by omega) (fun hh => e hh.symm), Int.add_zero]
/-- the sum over a list of elements -/
def lsm (F : List Nat → Int) (L : List (List Nat)) : Int := cx_sum L.length (fun i => F (L.getD i []))
theorem lsm_eq {P : List Nat → Prop} {L L' : List (List Nat)} {F : List Nat → Int} (hF : ∀ u v, cx_g n A u = cx_g n A v → F u = F v) (h : lvq n A P L) (h' : lvq n A P L') : lsm F L = lsm F L' := by
  unfold lsm
  have e1 : cx_sum L.length (fun i => F (L.getD i [])) = cx_sum L.length (fun i => cx_sum L'.length (fun j => cii (cx_g n A (L.getD i []) = cx_g n A (L'.getD j [])) (F (L.getD i [])) 0)) := by
    refine cx_sum_eq (fun i hi => ?_)
    have hu := gd_ex hi
    obtain ⟨uL, uP⟩ := h.2.1 i _ hu
    obtain ⟨j, v, hv, hg⟩ := h'.2.2 _ uL uP
    have hj := (List.getElem?_eq_some_iff.mp hv).1
    rw [cx_one1 (i0 := j) hj (fun j' hj' hne => cii_n (fun e => hne (h'.1 j' j _ v (gd_ex hj') hv (e.symm.trans hg.symm)))), cii_p (by rw [gd_of hv]; exact hg.symm)]
  have e2 : cx_sum L'.length (fun j => F (L'.getD j [])) = cx_sum L'.length (fun j => cx_sum L.length (fun i => cii (cx_g n A (L.getD i []) = cx_g n A (L'.getD j [])) (F (L.getD i [])) 0)) := by
    refine cx_sum_eq (fun j hj => ?_)
    have hv := gd_ex hj
    obtain ⟨vL, vP⟩ := h'.2.1 j _ hv
    obtain ⟨i, u, hu, hg⟩ := h.2.2 _ vL vP
    have hi := (List.getElem?_eq_some_iff.mp hu).1
    rw [cx_one1 (i0 := i) hi (fun i' hi' hne => cii_n (fun e => hne (h.1 i' i _ u (gd_ex hi') hu (e.trans hg.symm)))), cii_p (by rw [gd_of hu]; exact hg), gd_of hu]
    exact hF _ _ hg.symm
  rw [e1, cx_swap, ← e2]
theorem lsm_cg {L : List (List Nat)} {F G : List Nat → Int} (h : ∀ (i : Nat) (u : List Nat), L[i]? = some u → F u = G u) : lsm F L = lsm G L := cx_sum_eq (fun i hi => h i _ (gd_ex hi))
theorem lsm_add {L : List (List Nat)} (F G : List Nat → Int) : lsm (fun u => F u + G u) L = lsm F L + lsm G L := cx_sum_add _ _ _
theorem lsm_0 {L : List (List Nat)} {F : List Nat → Int} (h : ∀ (i : Nat) (u : List Nat), L[i]? = some u → F u = 0) : lsm F L = 0 := by
  rw [lsm_cg (G := fun _ => 0) h]
  exact cx_sum_z _
end S
