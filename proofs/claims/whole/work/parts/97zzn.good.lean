/-! Good descents: nothing is taken away. -/
section S
variable {n : Nat} {A : Nat → Nat → Int} {t : Nat} {w y : List Nat} {f g : List Nat → Nat → Int}
theorem cx_x_no (v : Nat → Int) : ∀ (x : List Nat), t ∉ x → cx_x n A x v t = v t := by
  intro x
  induction x with
  | nil => exact fun _ => rfl
  | cons s x ih =>
    intro h
    have h1 : t ≠ s := fun e => h (e ▸ List.mem_cons_self)
    have h2 : t ∉ x := fun e => h (List.mem_cons_of_mem _ e)
    show cx_a n A s (cx_x n A x v) t = v t
    unfold cx_a
    rw [if_neg h1]
    exact ih h2
/-- a mirror that a word doesn't have is none of its descents -/
theorem no_dn (hok : cx_ok n A) {x : List Nat} (hx : cx_L n x) (ht : t < n) (h : t ∉ x) : ¬ dn n A x t := by
  intro hd
  unfold dn at hd
  rcases cx_step hok hx ht with ⟨h1, _⟩ | ⟨_, h2⟩
  · omega
  · have e := h2 t
    rw [cx_x_no (n := n) (A := A) (cx_e t) x h] at e
    unfold cx_e at e
    rw [if_pos rfl] at e
    omega
theorem tau_nn (hg : ∀ u, cx_L n u → ∀ k, 0 ≤ g u k) (ht : t < n) {u : List Nat} (hu : cx_L n u) (k : Nat) : 0 ≤ tau n A t g u k := by
  have utL : cx_L n (u ++ [t]) := cx_L_app hu (cx_L_1 ht)
  have a1 := hg (u ++ [t]) utL k
  have a2 := qs_nn (fun j => hg u hu j) k
  have a3 := qs_nn (fun j => hg (u ++ [t]) utL j) k
  have a4 := hg u hu k
  show 0 ≤ cii (dn n A u t) (g (u ++ [t]) k + qs (g u) k) (qs (g (u ++ [t])) k + g u k)
  by_cases hdu : dn n A u t
  · rw [cii_p hdu]
    omega
  · rw [cii_n hdu]
    omega
/-- a descent below which nothing leans: P is the spread -/
theorem nn_good (hok : cx_ok n A) (hw : cx_L n w) (ht : t < n) (hd : dn n A w t) (hg : klo n A (w ++ [t]) g) (hn : ∀ u, cx_L n u → ∀ k, 0 ≤ g u k) (hz : ∀ z, cx_L n z → sbe n A z (w ++ [t]) → dn n A z t → mu n A g (w ++ [t]) z = 0) (hk : klo n A w f) : ∀ u, cx_L n u → ∀ k, f u k = tau n A t g u k ∧ 0 ≤ f u k := by
  intro u hu k
  have vL : cx_L n (w ++ [t]) := cx_L_app hw (cx_L_1 ht)
  obtain ⟨Z, hZ⟩ := idl_ex (A := A) vL
  have hzz : ∀ z : List Nat, ∃ fz, cx_L n z ∧ sbe n A z (w ++ [t]) → klo n A z fz := fun z => by
    by_cases h : cx_L n z ∧ sbe n A z (w ++ [t])
    · obtain ⟨fz, hfz⟩ := klo_ex hok _ z h.1 (Nat.le_refl _)
      exact ⟨fz, fun _ => hfz⟩
    · exact ⟨fun _ _ => 0, fun hh => absurd hh h⟩
  have K := klo_s hok hw ht hd hg hZ (fun z _ h => h) (fz := fun z => Classical.choose (hzz z)) (fun z zL _ hb => Classical.choose_spec (hzz z) ⟨zL, hb⟩)
  have e0 : lsm (fun z => lse n A t w (w ++ [t]) g (fun z => Classical.choose (hzz z)) z u k) Z = 0 := lsm_0 (fun i z hi => lse_0 (fun hdz hm => absurd (hz z (hZ.2.1 i z hi).1 (hZ.2.1 i z hi).2 hdz) hm))
  have e : f u k = tau n A t g u k := by
    rw [klo_un hok hw hk K (cx_l n A w) u hu (by omega) k]
    show tau n A t g u k - lsm (fun z => lse n A t w (w ++ [t]) g (fun z => Classical.choose (hzz z)) z u k) Z = _
    rw [e0, Int.sub_zero]
  exact ⟨e, by rw [e]; exact tau_nn hn ht hu k⟩
/-- a last letter that occurs once -/
theorem nn_end (hok : cx_ok n A) (hy : cx_L n (y ++ [t])) (yl : cx_l n A (y ++ [t]) = y.length + 1) (h : t ∉ y) (hm : knn n A y.length) (hk : klo n A (y ++ [t]) f) : ∀ u, cx_L n u → ∀ k, 0 ≤ f u k := by
  have yL : cx_L n y := fun r hr => hy r (List.mem_append_left _ hr)
  have ht : t < n := hy t (List.mem_append_right _ List.mem_cons_self)
  have nd := no_dn hok yL ht h
  have hd : dn n A (y ++ [t]) t := (dn_dn hok yL ht).mpr nd
  have vL : cx_L n (y ++ [t] ++ [t]) := cx_L_app hy (cx_L_1 ht)
  have vl := dn_1 hok hy ht hd
  have up := up_1 hok yL ht nd
  have gy : cx_g n A (y ++ [t] ++ [t]) = cx_g n A y := cx_g_sr hok ht y
  have ly : cx_l n A y = y.length := by omega
  obtain ⟨g, hg⟩ := klo_ex hok _ (y ++ [t] ++ [t]) vL (Nat.le_refl _)
  refine fun u hu k => (nn_good hok hy ht hd hg (fun u hu k => hm _ g vL (by omega) hg u hu k) (fun z zL hb hdz => ?_) hk u hu k).2
  obtain ⟨x, hx, hxg⟩ := (sbe_w hok zL yL ly vL gy.symm).mp hb
  exact absurd ((dn_g hxg t).mpr hdz) (no_dn hok (fun r hr => yL r (hx.subset hr)) ht (fun hh => h (hx.subset hh)))
end S
