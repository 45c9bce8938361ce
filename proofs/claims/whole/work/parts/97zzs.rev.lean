/-! P of elements turned over. -/
section S
variable {n : Nat} {A : Nat → Nat → Int} {s t m : Nat} {w v u x : List Nat} {f g : List Nat → Nat → Int} {L : List (List Nat)}
theorem rww_rv (hok : cx_ok n A) : ∀ (r : List Nat), cx_L n r → ∀ u, cx_L n u → ∀ k, rww n A r u.reverse k = rwl n A r u k := by
  intro r
  induction r with
  | nil =>
    intro _ u hu k
    show rd0 n A u.reverse k = rd0 n A u k
    unfold rd0
    rw [cx_l_rev hok hu]
  | cons s r ih =>
    intro hr u hu k
    have sn := cx_L_hd hr
    have usL : cx_L n (u ++ [s]) := cx_L_app hu (cx_L_1 sn)
    rw [rww_c hok sn (cx_L_tl hr) (cx_L_rev hu)]
    have e1 : ∀ k, rww n A r (s :: u.reverse) k = rwl n A r (u ++ [s]) k := by
      intro k
      have := ih (cx_L_tl hr) (u ++ [s]) usL k
      rw [List.reverse_append] at this
      exact this
    have e2 := ih (cx_L_tl hr) u hu
    show cii (ld n A s u.reverse) (rww n A r (s :: u.reverse) k) (qs (rww n A r u.reverse) k - rww n A r u.reverse k + qs (rww n A r (s :: u.reverse)) k) = cii (dn n A u s) (rwl n A r (u ++ [s]) k) (qs (rwl n A r u) k - rwl n A r u k + qs (rwl n A r (u ++ [s])) k)
    rw [e1 k, e2 k, qs_cg e1 k, qs_cg e2 k]
    exact cii_cg (dn_rev hok hu sn).symm (fun _ => rfl) (fun _ => rfl)
theorem Rx_rv (hok : cx_ok n A) (hx : cx_L n x) (hu : cx_L n u) (k : Nat) : Rx n A x.reverse u.reverse k = Rx n A x u k := by
  obtain ⟨a1, a2, a3⟩ := rdw_sp (A := A) hx
  have zL := cx_L_rev a1
  have zl : cx_l n A (rdw n A x).reverse = (rdw n A x).reverse.length := by
    rw [cx_l_rev hok a1, a3, List.length_reverse]
  rw [Rx_w hok zL zl (cx_L_rev hx) (cx_g_rev hok a1 hx a2) (cx_L_rev hu) k, rww_rv hok _ zL u hu k]
  rfl
theorem sbe_rv (hok : cx_ok n A) (hw : cx_L n w) (hu : cx_L n u) (h : sbe n A u w) : sbe n A u.reverse w.reverse := by
  obtain ⟨a1, a2, a3⟩ := rdw_sp (A := A) hw
  obtain ⟨z, hz, hg⟩ := h
  have zL : cx_L n z := fun r hr => a1 r (hz.subset hr)
  have zl : cx_l n A (rdw n A w).reverse = (rdw n A w).reverse.length := by
    rw [cx_l_rev hok a1, a3, List.length_reverse]
  exact (sbe_w hok (cx_L_rev hu) (cx_L_rev a1) zl (cx_L_rev hw) (cx_g_rev hok a1 hw a2)).mpr ⟨z.reverse, hz.reverse, cx_g_rev hok zL hu hg⟩
theorem sbe_rv2 (hok : cx_ok n A) (hw : cx_L n w) (hu : cx_L n u) : sbe n A u.reverse w ↔ sbe n A u w.reverse := by
  constructor
  · intro h
    have := sbe_rv hok hw (cx_L_rev hu) h
    rw [List.reverse_reverse] at this
    exact this
  · intro h
    have := sbe_rv hok (cx_L_rev hw) hu h
    rw [List.reverse_reverse] at this
    exact this
theorem idl_rv (hok : cx_ok n A) (hw : cx_L n w) (h : idl n A w.reverse L) : idl n A w (L.map List.reverse) := by
  have gm : ∀ {i : Nat} {u : List Nat}, (L.map List.reverse)[i]? = some u → ∃ v, L[i]? = some v ∧ u = v.reverse := by
    intro i u hu
    rw [List.getElem?_map] at hu
    cases hi : L[i]? with
    | none => rw [hi] at hu; cases hu
    | some v =>
      rw [hi] at hu
      exact ⟨v, rfl, (Option.some.inj hu).symm⟩
  refine ⟨fun i j u v hu hv hg => ?_, fun i u hu => ?_, fun z hz hp => ?_⟩
  · obtain ⟨a, ha, ea⟩ := gm hu
    obtain ⟨b, hb, eb⟩ := gm hv
    rw [ea, eb] at hg
    have := cx_g_rev hok (cx_L_rev (h.2.1 i a ha).1) (cx_L_rev (h.2.1 j b hb).1) hg
    rw [List.reverse_reverse, List.reverse_reverse] at this
    exact h.1 i j a b ha hb this
  · obtain ⟨a, ha, ea⟩ := gm hu
    obtain ⟨h1, h2⟩ := h.2.1 i a ha
    rw [ea]
    exact ⟨cx_L_rev h1, (sbe_rv2 hok hw h1).mpr h2⟩
  · obtain ⟨i, u, hu, hg⟩ := h.2.2 z.reverse (cx_L_rev hz) (sbe_rv hok hw hz hp)
    refine ⟨i, u.reverse, by rw [List.getElem?_map, hu]; rfl, ?_⟩
    have := cx_g_rev hok (h.2.1 i u hu).1 (cx_L_rev hz) hg
    rw [List.reverse_reverse] at this
    exact this
theorem lsm_rv (F : List Nat → Int) : lsm F (L.map List.reverse) = lsm (fun u => F u.reverse) L := by
  unfold lsm
  rw [List.length_map]
  refine cx_sum_eq (fun i hi => ?_)
  have h1 := gd_ex hi
  rw [gd_of (ws := L.map List.reverse) (i := i) (u := (L.getD i []).reverse) (by rw [List.getElem?_map, h1]; rfl)]
/-- P turned over -/
noncomputable def frv (n : Nat) (A : Nat → Nat → Int) (f : List Nat → Nat → Int) : List Nat → Nat → Int := fun u => f (rdw n A u).reverse
theorem frv_L (hok : cx_ok n A) (hf : egl n A f) (hu : cx_L n u) : frv n A f u = f u.reverse := by
  obtain ⟨a1, a2, _⟩ := rdw_sp (A := A) hu
  exact hf _ _ (cx_g_rev hok a1 hu a2)
theorem klo_rv (hok : cx_ok n A) (hw : cx_L n w) (h : klo n A w f) : klo n A w.reverse (frv n A f) := by
  have wr := cx_L_rev hw
  have lw := cx_l_rev hok hw
  refine ⟨fun u v hg => ?_, fun u hu hb k => ?_, fun k => ?_, fun u hu hne k hk => ?_, fun L hL => ⟨fun u hu k => ?_, fun u hu k hk => ?_⟩⟩
  · unfold frv
    rw [rdw_g hg]
  · rw [frv_L hok h.1 hu]
    exact h.2.1 _ (cx_L_rev hu) (fun hb' => hb ((sbe_rv2 hok hw hu).mp hb')) k
  · rw [frv_L hok h.1 wr, List.reverse_reverse]
    exact h.2.2.1 k
  · rw [frv_L hok h.1 hu]
    refine h.2.2.2.1 _ (cx_L_rev hu) (fun hg => hne ?_) k (by rw [cx_l_rev hok hu, ← lw]; exact hk)
    have := cx_g_rev hok (cx_L_rev hu) hw hg
    rw [List.reverse_reverse] at this
    exact this
  · have S := (h.2.2.2.2 _ (idl_rv hok hw hL)).1 u.reverse (cx_L_rev hu) k
    have e : phi n A (L.map List.reverse) f u.reverse k = phi n A L (frv n A f) u k := by
      unfold phi
      rw [lsm_rv]
      refine lsm_cg (fun i x hi => ?_)
      have xL := (hL.2.1 i x hi).1
      rw [frv_L hok h.1 xL]
      exact cnv_cg (fun j => Rx_rv hok xL hu j) (fun _ => rfl) k
    rw [← e, S, cx_l_rev hok hu, lw, frv_L hok h.1 hu]
  · rw [frv_L hok h.1 hu]
    exact (h.2.2.2.2 _ (idl_rv hok hw hL)).2 _ (cx_L_rev hu) k (by rw [cx_l_rev hok hu, ← lw]; exact hk)
/-- not under 0, turned over -/
theorem nn_rv (hok : cx_ok n A) (hw : cx_L n w) (hk : klo n A w f) (h : ∀ f', klo n A w.reverse f' → ∀ u, cx_L n u → ∀ k, 0 ≤ f' u k) : ∀ u, cx_L n u → ∀ k, 0 ≤ f u k := by
  intro u hu k
  have := h _ (klo_rv hok hw hk) u.reverse (cx_L_rev hu) k
  rw [frv_L hok hk.1 (cx_L_rev hu), List.reverse_reverse] at this
  exact this
end S
