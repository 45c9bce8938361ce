/-! GD: a descent s behind a descent t, and nothing below has both: P is not under 0. -/
section S
variable {n : Nat} {A : Nat → Nat → Int} {s t m : Nat} {w v u : List Nat} {f g h : List Nat → Nat → Int}
theorem nfl_le (hok : cx_ok n A) (hv : cx_L n v) (hw : cx_L n w) (hb : sbe n A v w) (hn : nfl n A s t w) : nfl n A s t v := fun z zL hz => hn z zL (sbe_tr hok zL hv hw hz hb)
theorem nfl_sw (hn : nfl n A s t w) : nfl n A t s w := fun z zL hz hd => hn z zL hz ⟨hd.2, hd.1⟩
/-- P by the two last letters -/
theorem gd_f (hok : cx_ok n A) (hw : cx_L n w) (sn : s < n) (tn : t < n) (hd : dn n A w s) (hdt : dn n A (w ++ [s]) t) (nf : nfl n A s t (w ++ [s])) (hk : klo n A w f) (hg : klo n A (w ++ [s]) g) (hh : klo n A (w ++ [s] ++ [t]) h) (hu : cx_L n u) (k : Nat) : f u k = tau n A s g u k - cii (dn n A (w ++ [s] ++ [t]) s) (qs (h u) k) 0 := by
  have vL : cx_L n (w ++ [s]) := cx_L_app hw (cx_L_1 sn)
  have yL : cx_L n (w ++ [s] ++ [t]) := cx_L_app vL (cx_L_1 tn)
  have vl := dn_1 hok hw sn hd
  have yl := dn_1 hok vL tn hdt
  have nv : ¬ dn n A (w ++ [s]) s := fun h => (dn_dn hok hw sn).mp h hd
  obtain ⟨Z, hZ⟩ := idl_ex (A := A) vL
  have hz : ∀ z : List Nat, ∃ fz, cx_L n z ∧ sbe n A z (w ++ [s]) → klo n A z fz := fun z => by
    by_cases h : cx_L n z ∧ sbe n A z (w ++ [s])
    · obtain ⟨fz, hfz⟩ := klo_ex hok _ z h.1 (Nat.le_refl _)
      exact ⟨fz, fun _ => hfz⟩
    · exact ⟨fun _ _ => 0, fun hh => absurd hh h⟩
  have K := klo_s hok hw sn hd hg hZ (fun z _ h => h) (fz := fun z => Classical.choose (hz z)) (fun z zL _ hb => Classical.choose_spec (hz z) ⟨zL, hb⟩)
  rw [klo_un hok hw hk K (cx_l n A w) u hu (by omega) k]
  show tau n A s g u k - lsm (fun z => lse n A s w (w ++ [s]) g (fun z => Classical.choose (hz z)) z u k) Z = _
  have only : ∀ (i : Nat) (z : List Nat), Z[i]? = some z → dn n A z s → mu n A g (w ++ [s]) z ≠ 0 → cx_g n A z = cx_g n A (w ++ [s] ++ [t]) := by
    intro i z hi hdz hmu
    have zP := hZ.2.1 i z hi
    have zl := sbe_l vL zP.1 zP.2
    have zlt : cx_l n A z < cx_l n A (w ++ [s]) := by
      by_cases he : cx_l n A z = cx_l n A (w ++ [s])
      · exact absurd ((dn_g (zl.2 he) s).mp hdz) nv
      · have := zl.1
        omega
    rcases mu_D hok vL hg zP.1 zlt hmu tn hdt with h1 | h1
    · exact absurd ⟨hdz, h1⟩ (nf z zP.1 zP.2)
    · exact h1
  congr 1
  by_cases hys : dn n A (w ++ [s] ++ [t]) s
  · rw [cii_p hys]
    obtain ⟨i, z, hi, hgz⟩ := hZ.2.2 (w ++ [s] ++ [t]) yL (sbe_ws hok vL tn hdt)
    have zP := hZ.2.1 i z hi
    have zk := klo_g hgz (Classical.choose_spec (hz z) ⟨zP.1, zP.2⟩)
    have il := (List.getElem?_eq_some_iff.mp hi).1
    have one : lsm (fun z => lse n A s w (w ++ [s]) g (fun z => Classical.choose (hz z)) z u k) Z = lse n A s w (w ++ [s]) g (fun z => Classical.choose (hz z)) z u k := by
      unfold lsm
      rw [cx_one1 (i0 := i) il (fun i' hi' hne => lse_0 (fun a b => absurd (hZ.1 i' i _ z (gd_ex hi') hi ((only i' _ (gd_ex hi') a b).trans hgz.symm)) hne)), gd_of hi]
    rw [one]
    show cii (dn n A z s) (mu n A g (w ++ [s]) z * qn ((cx_l n A w - cx_l n A z) / 2) (Classical.choose (hz z) u) k) 0 = qs (h u) k
    have lz : cx_l n A z = cx_l n A (w ++ [s] ++ [t]) := cx_l_eq hgz
    have m1 : mu n A g (w ++ [s]) z = 1 := by
      unfold mu
      rw [if_pos (by omega), show (cx_l n A (w ++ [s]) - cx_l n A z - 1) / 2 = 0 by omega, hg.1 z _ hgz, klo_sy hok _ (w ++ [s]) g t vL (Nat.le_refl _) hg tn hdt (w ++ [s]) vL 0, hg.2.2.1 0, if_pos rfl]
    rw [cii_p ((dn_g hgz s).mpr hys), m1, Int.one_mul, show (cx_l n A w - cx_l n A z) / 2 = 1 by omega]
    show qs (Classical.choose (hz z) u) k = qs (h u) k
    exact qs_cg (fun j => klo_un hok yL zk hh (cx_l n A (w ++ [s] ++ [t])) u hu (by omega) j) k
  · rw [cii_n hys]
    exact lsm_0 (fun i z hi => lse_0 (fun a b => absurd ((dn_g (only i z hi a b) s).mp a) hys))
/-- P grows by the last letter, where the other mirror goes down -/
theorem gd_le (hok : cx_ok n A) {M : Nat} (hm : knn n A M) : ∀ (m s t : Nat) (u : List Nat) (f g : List Nat → Nat → Int), cx_L n u → cx_l n A u ≤ m → m ≤ M → s < n → t < n → dn n A u s → ¬ dn n A u t → dn n A (u ++ [s]) t → nfl n A s t u → klo n A u f → klo n A (u ++ [s]) g → ∀ x, cx_L n x → dn n A x t → ∀ k, g x k ≤ f x k := by
  intro m
  induction m with
  | zero =>
    intro s t u f g hu hl _ sn tn hd
    unfold dn at hd
    omega
  | succ m ih =>
    intro s t u f g hu hl hM sn tn hd hnt hyt nf kf kg x hx hxt k
    have yL : cx_L n (u ++ [s]) := cx_L_app hu (cx_L_1 sn)
    have yl := dn_1 hok hu sn hd
    have ny : ¬ dn n A (u ++ [s]) s := fun h => (dn_dn hok hu sn).mp h hd
    have yb := sbe_ws hok hu sn hd
    by_cases hb : sbe n A x u
    · have nxs : ¬ dn n A x s := fun h => nf x hx hb ⟨h, hxt⟩
      have xsL : cx_L n (x ++ [s]) := cx_L_app hx (cx_L_1 sn)
      have dxs : dn n A (x ++ [s]) s := (dn_dn hok hx sn).mpr nxs
      have zL : cx_L n (u ++ [s] ++ [t]) := cx_L_app yL (cx_L_1 tn)
      obtain ⟨h, hh⟩ := klo_ex hok _ (u ++ [s] ++ [t]) zL (Nat.le_refl _)
      have nfy := nfl_le hok yL hu yb nf
      rw [← klo_sy hok _ u f s hu (Nat.le_refl _) kf sn hd x hx k, gd_f hok hu sn tn hd hyt nfy kf kg hh xsL k]
      have e1 : tau n A s g (x ++ [s]) k = g (x ++ [s] ++ [s]) k + qs (g (x ++ [s])) k := cii_p dxs
      rw [e1, kg.1 _ _ (cx_g_sr hok sn x)]
      by_cases hys : dn n A (u ++ [s] ++ [t]) s
      · rw [cii_p hys]
        have le : ∀ j, h (x ++ [s]) j ≤ g (x ++ [s]) j := fun j => ih t s (u ++ [s]) g h yL (by omega) (by omega) tn sn hyt ny hys (nfl_sw nfy) kg hh (x ++ [s]) xsL dxs j
        cases k with
        | zero =>
          show g x 0 ≤ g x 0 + 0 - 0
          omega
        | succ k =>
          show g x (k + 1) ≤ g x (k + 1) + g (x ++ [s]) k - h (x ++ [s]) k
          have := le k
          omega
      · rw [cii_n hys]
        have := qs_nn (fun j => hm (u ++ [s]) g yL (by omega) kg (x ++ [s]) xsL j) k
        omega
    · rw [kf.2.1 x hx hb k, kg.2.1 x hx (fun h => hb (sbe_tr hok hx yL hu h yb)) k]
      exact Int.le_refl _
/-- GD -/
theorem gd_nn (hok : cx_ok n A) (hw : cx_L n w) (sn : s < n) (tn : t < n) (hd : dn n A w s) (hdt : dn n A (w ++ [s]) t) (nf : nfl n A s t (w ++ [s])) (hm : knn n A m) (hml : cx_l n A w ≤ m + 1) (hk : klo n A w f) : ∀ u, cx_L n u → ∀ k, 0 ≤ f u k := by
  have vL : cx_L n (w ++ [s]) := cx_L_app hw (cx_L_1 sn)
  have yL : cx_L n (w ++ [s] ++ [t]) := cx_L_app vL (cx_L_1 tn)
  have vl := dn_1 hok hw sn hd
  have nv : ¬ dn n A (w ++ [s]) s := fun h => (dn_dn hok hw sn).mp h hd
  obtain ⟨g, hg⟩ := klo_ex hok _ (w ++ [s]) vL (Nat.le_refl _)
  obtain ⟨h, hh⟩ := klo_ex hok _ (w ++ [s] ++ [t]) yL (Nat.le_refl _)
  have gn : ∀ z, cx_L n z → ∀ j, 0 ≤ g z j := fun z zL j => hm (w ++ [s]) g vL (by omega) hg z zL j
  have main : ∀ u, cx_L n u → dn n A u s → ∀ k, 0 ≤ f u k := by
    intro u hu hus k
    have usL : cx_L n (u ++ [s]) := cx_L_app hu (cx_L_1 sn)
    rw [gd_f hok hw sn tn hd hdt nf hk hg hh hu k]
    have e1 : tau n A s g u k = g (u ++ [s]) k + qs (g u) k := cii_p hus
    rw [e1]
    have p1 := gn (u ++ [s]) usL k
    by_cases hys : dn n A (w ++ [s] ++ [t]) s
    · rw [cii_p hys]
      have le : ∀ j, h u j ≤ g u j := fun j => gd_le hok hm (cx_l n A (w ++ [s])) t s (w ++ [s]) g h vL (Nat.le_refl _) (by omega) tn sn hdt nv hys (nfl_sw nf) hg hh u hu hus j
      cases k with
      | zero =>
        show 0 ≤ g (u ++ [s]) 0 + 0 - 0
        omega
      | succ k =>
        show 0 ≤ g (u ++ [s]) (k + 1) + g u k - h u k
        have := le k
        omega
    · rw [cii_n hys]
      have := qs_nn (fun j => gn u hu j) k
      omega
  intro u hu k
  by_cases hus : dn n A u s
  · exact main u hu hus k
  · rw [← klo_sy hok _ w f s hw (Nat.le_refl _) hk sn hd u hu k]
    exact main (u ++ [s]) (cx_L_app hu (cx_L_1 sn)) ((dn_dn hok hu sn).mpr hus) k
/-- GD for words -/
theorem gd_w (hok : cx_ok n A) {y : List Nat} (hy : cx_L n (y ++ [t] ++ [s])) (yl : cx_l n A (y ++ [t] ++ [s]) = y.length + 2) (hst : s ≠ t) {r : Nat} (hr : cx_pr (A s t) (A t s) r) (h : r ≠ 0 → aln s t (y ++ [t]).reverse < r ∧ aln t s (y ++ [t]).reverse < r) (hm : knn n A (y.length + 1)) (hk : klo n A (y ++ [t] ++ [s]) f) : ∀ u, cx_L n u → ∀ k, 0 ≤ f u k := by
  have vL : cx_L n (y ++ [t]) := fun q hq => hy q (List.mem_append_left _ hq)
  have yL : cx_L n y := fun q hq => vL q (List.mem_append_left _ hq)
  have sn : s < n := hy s (List.mem_append_right _ List.mem_cons_self)
  have tn : t < n := vL t (List.mem_append_right _ List.mem_cons_self)
  have l1 := cx_l_app (A := A) vL (cx_L_1 sn)
  have l2 := cx_l_app (A := A) yL (cx_L_1 tn)
  have l3 := cx_l_len (A := A) yL
  rw [List.length_singleton] at l1 l2
  have vl : cx_l n A (y ++ [t]) = (y ++ [t]).length := by
    rw [List.length_append, List.length_singleton]
    omega
  have ev := cx_g_sr hok sn (y ++ [t])
  have hd : dn n A (y ++ [t] ++ [s]) s := by
    unfold dn
    rw [cx_l_eq ev]
    omega
  have nf := nfl_of hok vL vl sn tn hst hr h
  have hdt : dn n A (y ++ [t]) t := by
    unfold dn
    rw [cx_l_eq (cx_g_sr hok tn y)]
    omega
  refine gd_nn hok hy sn tn hd ((dn_g ev t).mpr hdt) (fun z zL hz => nf z zL ((sbe_g2 ev).mp hz)) hm (by omega) hk
end S
