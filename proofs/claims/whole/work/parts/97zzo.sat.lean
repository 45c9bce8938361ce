/-! What may lean, by descents alone; saturated elements. -/
section S
variable {n : Nat} {A : Nat → Nat → Int} {t s b : Nat} {w v z u : List Nat} {f g : List Nat → Nat → Int}
theorem tau_sy (hok : cx_ok n A) (hg : egl n A g) (ht : t < n) (hu : cx_L n u) (k : Nat) : tau n A t g (u ++ [t]) k = tau n A t g u k := by
  have e : g (u ++ [t] ++ [t]) = g u := hg _ _ (cx_g_sr hok ht u)
  show cii (dn n A (u ++ [t]) t) (g (u ++ [t] ++ [t]) k + qs (g (u ++ [t])) k) (qs (g (u ++ [t] ++ [t])) k + g (u ++ [t]) k) = cii (dn n A u t) (g (u ++ [t]) k + qs (g u) k) (qs (g (u ++ [t])) k + g u k)
  rw [e]
  by_cases hd : dn n A u t
  · rw [cii_p hd, cii_n (fun h => (dn_dn hok hu ht).mp h hd)]
    omega
  · rw [cii_n hd, cii_p ((dn_dn hok hu ht).mpr hd)]
    omega
/-- P doesn't change along a descent of w -/
theorem klo_sy (hok : cx_ok n A) : ∀ (m : Nat) (w : List Nat) (f : List Nat → Nat → Int) (t : Nat), cx_L n w → cx_l n A w ≤ m → klo n A w f → t < n → dn n A w t → ∀ u, cx_L n u → ∀ k, f (u ++ [t]) k = f u k := by
  intro m
  induction m with
  | zero =>
    intro w f t hw hl hk ht hd
    unfold dn at hd
    omega
  | succ m ih =>
    intro w f t hw hl hk ht hd u hu k
    have vL : cx_L n (w ++ [t]) := cx_L_app hw (cx_L_1 ht)
    have vl := dn_1 hok hw ht hd
    obtain ⟨g, hg⟩ := klo_ex hok _ (w ++ [t]) vL (Nat.le_refl _)
    obtain ⟨Z, hZ⟩ := idl_ex (A := A) vL
    have hz : ∀ z : List Nat, ∃ fz, cx_L n z ∧ sbe n A z (w ++ [t]) → klo n A z fz := fun z => by
      by_cases h : cx_L n z ∧ sbe n A z (w ++ [t])
      · obtain ⟨fz, hfz⟩ := klo_ex hok _ z h.1 (Nat.le_refl _)
        exact ⟨fz, fun _ => hfz⟩
      · exact ⟨fun _ _ => 0, fun hh => absurd hh h⟩
    have K := klo_s hok hw ht hd hg hZ (fun z _ h => h) (fz := fun z => Classical.choose (hz z)) (fun z zL _ hb => Classical.choose_spec (hz z) ⟨zL, hb⟩)
    have utL : cx_L n (u ++ [t]) := cx_L_app hu (cx_L_1 ht)
    rw [klo_un hok hw hk K (cx_l n A w) u hu (by omega) k, klo_un hok hw hk K (cx_l n A w) (u ++ [t]) utL (by omega) k]
    show tau n A t g (u ++ [t]) k - lsm (fun z => lse n A t w (w ++ [t]) g (fun z => Classical.choose (hz z)) z (u ++ [t]) k) Z = tau n A t g u k - lsm (fun z => lse n A t w (w ++ [t]) g (fun z => Classical.choose (hz z)) z u k) Z
    rw [tau_sy hok hg.1 ht hu, lsm_cg (G := fun z => lse n A t w (w ++ [t]) g (fun z => Classical.choose (hz z)) z u k) (fun i z hi => ?_)]
    have zP := hZ.2.1 i z hi
    have zk := Classical.choose_spec (hz z) ⟨zP.1, zP.2⟩
    have zl := (sbe_l vL zP.1 zP.2).1
    show cii (dn n A z t) (mu n A g (w ++ [t]) z * qn ((cx_l n A w - cx_l n A z) / 2) (Classical.choose (hz z) (u ++ [t])) k) 0 = cii (dn n A z t) (mu n A g (w ++ [t]) z * qn ((cx_l n A w - cx_l n A z) / 2) (Classical.choose (hz z) u) k) 0
    by_cases hdz : dn n A z t
    · rw [cii_p hdz, cii_p hdz, qn_cg (fun j => ih z _ t zP.1 (by omega) zk ht hdz u hu j)]
    · rw [cii_n hdz, cii_n hdz]
/-- what leans on v has the descents of v, or is v without one -/
theorem mu_D (hok : cx_ok n A) (hv : cx_L n v) (hg : klo n A v g) (hz : cx_L n z) (hlt : cx_l n A z < cx_l n A v) (hm : mu n A g v z ≠ 0) (hb : b < n) (hdv : dn n A v b) : dn n A z b ∨ cx_g n A z = cx_g n A (v ++ [b]) := by
  by_cases hdz : dn n A z b
  · exact Or.inl hdz
  · right
    have zbL : cx_L n (z ++ [b]) := cx_L_app hz (cx_L_1 hb)
    have zl := up_1 hok hz hb hdz
    by_cases hgz : cx_g n A (z ++ [b]) = cx_g n A v
    · have e := cx_g_sr hok hb z
      rw [← e]
      exact cx_g_ap1 [b] hgz
    · exfalso
      apply hm
      unfold mu
      split
      · rw [← klo_sy hok _ v g b hv (Nat.le_refl _) hg hb hdv z hz]
        exact hg.2.2.2.1 (z ++ [b]) zbL hgz _ (by omega)
      · rfl
end S
