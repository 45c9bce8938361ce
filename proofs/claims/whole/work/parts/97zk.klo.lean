/-! P: what it is, and that the rule with leaning ones makes it. -/
section S
variable {n : Nat} {A : Nat → Nat → Int} {s t : Nat} {u v w x z : List Nat} {L L' : List (List Nat)} {f g : List Nat → Nat → Int}
theorem sbe_rf (hw : cx_L n w) : sbe n A w w := ⟨rdw n A w, List.Sublist.refl _, (rdw_sp (A := A) hw).2.1⟩
theorem sbe_l (hw : cx_L n w) (hu : cx_L n u) (h : sbe n A u w) : cx_l n A u ≤ cx_l n A w ∧ (cx_l n A u = cx_l n A w → cx_g n A u = cx_g n A w) := by
  obtain ⟨a1, a2, a3⟩ := rdw_sp (A := A) hw
  obtain ⟨y, h1, h2⟩ := h
  have yL : cx_L n y := fun r hr => a1 r (h1.subset hr)
  have e1 := cx_l_le hu yL h2
  have e2 := h1.length_le
  have e3 : (rdw n A w).length = cx_l n A w := by rw [← a3, cx_l_eq a2]
  refine ⟨by omega, fun he => ?_⟩
  have e4 : y = rdw n A w := h1.eq_of_length (by omega)
  rw [← h2, e4, a2]
theorem sbe_tr (hok : cx_ok n A) (hx : cx_L n x) (hz : cx_L n z) (hw : cx_L n w) (h1 : sbe n A x z) (h2 : sbe n A z w) : sbe n A x w := by
  obtain ⟨a1, a2, a3⟩ := rdw_sp (A := A) hw
  obtain ⟨y, b1, b2⟩ := h2
  have yL : cx_L n y := fun r hr => a1 r (b1.subset hr)
  obtain ⟨y', c1, c2, c3⟩ := red_sub hok yL
  have y'L : cx_L n y' := fun r hr => yL r (c1.subset hr)
  obtain ⟨q, d1, d2⟩ := (sbe_w hok hx y'L c3 hz (c2.trans b2)).mp h1
  exact ⟨q, d1.trans (c1.trans b1), d2⟩
theorem sbe_ws (hok : cx_ok n A) (hw : cx_L n w) (hs : s < n) (hd : dn n A w s) : sbe n A (w ++ [s]) w := sbe_s hok hw hs hd hw (sbe_rf hw)
theorem idl_ex (hw : cx_L n w) : ∃ L, idl n A w L := by
  obtain ⟨a1, a2, a3⟩ := rdw_sp (A := A) hw
  obtain ⟨L, h1, h2, h3⟩ := ddp (n := n) (A := A) (fun u => cx_L n u ∧ sbe n A u w) (als (rdw n A w))
  refine ⟨L, h1, fun i u hu => (h2 i u hu).2, fun z hz hp => ?_⟩
  obtain ⟨y, b1, b2⟩ := id hp
  have yL : cx_L n y := fun r hr => a1 r (b1.subset hr)
  obtain ⟨i, u, c1, c2⟩ := h3 y (als_sub b1) ⟨yL, (sbe_g1 b2).mpr hp⟩
  exact ⟨i, u, c1, c2.trans b2⟩
theorem lsm_sup {P Q : List Nat → Prop} {F : List Nat → Int} (hF : ∀ u v, cx_g n A u = cx_g n A v → F u = F v) (h : lvq n A P L) (h' : lvq n A Q L') (hQP : ∀ x, cx_L n x → Q x → P x) (h0 : ∀ x, cx_L n x → ¬ Q x → F x = 0) : lsm F L = lsm F L' := by
  unfold lsm
  have e1 : cx_sum L.length (fun i => F (L.getD i [])) = cx_sum L.length (fun i => cx_sum L'.length (fun j => cii (cx_g n A (L.getD i []) = cx_g n A (L'.getD j [])) (F (L.getD i [])) 0)) := by
    refine cx_sum_eq (fun i hi => ?_)
    have hu := gd_ex hi
    obtain ⟨uL, uP⟩ := h.2.1 i _ hu
    by_cases hq : Q (L.getD i [])
    · obtain ⟨j, v, hv, hg⟩ := h'.2.2 _ uL hq
      have hj := (List.getElem?_eq_some_iff.mp hv).1
      rw [cx_one1 (i0 := j) hj (fun j' hj' hne => cii_n (fun e => hne (h'.1 j' j _ v (gd_ex hj') hv (e.symm.trans hg.symm)))), cii_p (by rw [gd_of hv]; exact hg.symm)]
    · rw [h0 _ uL hq, cx_sum_eq (g := fun _ => 0) (fun j _ => by
        by_cases e : cx_g n A (L.getD i []) = cx_g n A (L'.getD j [])
        · exact cii_p e
        · exact cii_n e), cx_sum_z]
  have e2 : cx_sum L'.length (fun j => F (L'.getD j [])) = cx_sum L'.length (fun j => cx_sum L.length (fun i => cii (cx_g n A (L.getD i []) = cx_g n A (L'.getD j [])) (F (L.getD i [])) 0)) := by
    refine cx_sum_eq (fun j hj => ?_)
    have hv := gd_ex hj
    obtain ⟨vL, vP⟩ := h'.2.1 j _ hv
    obtain ⟨i, u, hu, hg⟩ := h.2.2 _ vL (hQP _ vL vP)
    have hi := (List.getElem?_eq_some_iff.mp hu).1
    rw [cx_one1 (i0 := i) hi (fun i' hi' hne => cii_n (fun e => hne (h.1 i' i _ u (gd_ex hi') hu (e.trans hg.symm)))), cii_p (by rw [gd_of hu]; exact hg), gd_of hu]
    exact hF _ _ hg.symm
  rw [e1, cx_swap, ← e2]
/-- P of all u with w -/
def klo (n : Nat) (A : Nat → Nat → Int) (w : List Nat) (f : List Nat → Nat → Int) : Prop := egl n A f ∧ (∀ u, cx_L n u → ¬ sbe n A u w → ∀ k, f u k = 0) ∧ (∀ k, f w k = if k = 0 then 1 else 0) ∧ (∀ u, cx_L n u → cx_g n A u ≠ cx_g n A w → ∀ k, cx_l n A w ≤ cx_l n A u + 2 * k → f u k = 0) ∧ ∀ L, idl n A w L → sdl n A (cx_l n A w) L f
theorem klo_L (hok : cx_ok n A) (hz : cx_L n z) (hw : cx_L n w) (h : klo n A z f) (hb : sbe n A z w) (hL : idl n A w L) : sdl n A (cx_l n A z) L f := by
  obtain ⟨L', hL'⟩ := idl_ex (A := A) hz
  obtain ⟨h1, h2, h3, h4, h5⟩ := h
  obtain ⟨s1, s2⟩ := h5 L' hL'
  refine ⟨fun u hu k => ?_, s2⟩
  rw [← s1 u hu k]
  refine lsm_sup (fun a b hg => by rw [Rx_g hg, h1 a b hg]) hL hL' (fun x hx hq => sbe_tr hok hx hz hw hq hb) (fun x hx hq => ?_)
  have : ∀ k, f x k = 0 := h2 x hx hq
  rw [cnv_cg (fun _ => rfl) this k]
  show cx_sum (k + 1) (fun i => Rx n A x u i * 0) = 0
  rw [cx_sum_eq (g := fun _ => 0) (fun i _ => Int.mul_zero _), cx_sum_z]
theorem cnv_00 (a : Nat → Int) (k : Nat) : cnv a (fun _ => 0) k = 0 := by
  show cx_sum (k + 1) (fun i => a i * 0) = 0
  rw [cx_sum_eq (g := fun _ => 0) (fun i _ => Int.mul_zero _), cx_sum_z]
theorem sdl_0 (m : Nat) : sdl n A m L (fun _ _ => 0) := by
  refine ⟨fun u hu k => ?_, fun _ _ _ _ => rfl⟩
  show lsm (fun x => cnv (Rx n A x u) (fun _ => 0) k) L = if cx_l n A u + k ≤ m then 0 else 0
  rw [lsm_0 (fun i x _ => cnv_00 _ _)]
  split <;> rfl
theorem sdl_cg {m : Nat} (h : sdl n A m L f) (he : ∀ u k, f u k = g u k) : sdl n A m L g := by
  have : f = g := funext (fun u => funext (fun k => he u k))
  rw [← this]
  exact h
theorem sdl_sum {m : Nat} {G : Nat → List Nat → Nat → Int} : ∀ (N : Nat), (∀ i, i < N → sdl n A m L (G i)) → sdl n A m L (fun u k => cx_sum N (fun i => G i u k)) := by
  intro N
  induction N with
  | zero => exact fun _ => sdl_0 m
  | succ N ih =>
    intro h
    refine sdl_cg (sdl_lin 1 (ih (fun i hi => h i (by omega))) (h N (by omega))) (fun u k => ?_)
    show _ = cx_sum N (fun i => G i u k) + G N u k
    rw [Int.one_mul]
/-- LEANS of z on v -/
noncomputable def mu (n : Nat) (A : Nat → Nat → Int) (f : List Nat → Nat → Int) (v z : List Nat) : Int := if (cx_l n A v - cx_l n A z) % 2 = 1 then f z ((cx_l n A v - cx_l n A z - 1) / 2) else 0
/-- what is taken away -/
noncomputable def lse (n : Nat) (A : Nat → Nat → Int) (s : Nat) (w v : List Nat) (f : List Nat → Nat → Int) (fz : List Nat → List Nat → Nat → Int) (z u : List Nat) (k : Nat) : Int := cii (dn n A z s) (mu n A f v z * qn ((cx_l n A w - cx_l n A z) / 2) (fz z u) k) 0
noncomputable def kls (n : Nat) (A : Nat → Nat → Int) (s : Nat) (w v : List Nat) (f : List Nat → Nat → Int) (fz : List Nat → List Nat → Nat → Int) (Z : List (List Nat)) : List Nat → Nat → Int := fun u k => tau n A s f u k - lsm (fun z => lse n A s w v f fz z u k) Z
theorem lse_0 {fz : List Nat → List Nat → Nat → Int} {k : Nat} (h : dn n A z s → mu n A f v z ≠ 0 → qn ((cx_l n A w - cx_l n A z) / 2) (fz z u) k = 0) : lse n A s w v f fz z u k = 0 := by
  unfold lse
  by_cases hd : dn n A z s
  · rw [cii_p hd]
    by_cases hm : mu n A f v z = 0
    · rw [hm, Int.zero_mul]
    · rw [h hd hm, Int.mul_zero]
  · exact cii_n hd
theorem klo_s (hok : cx_ok n A) (hw : cx_L n w) (hs : s < n) (hd : dn n A w s) (hf : klo n A (w ++ [s]) f) {Q : List Nat → Prop} {Z : List (List Nat)} (hZ : lvq n A Q Z) (hQ : ∀ z, cx_L n z → sbe n A z (w ++ [s]) → Q z) {fz : List Nat → List Nat → Nat → Int} (hfz : ∀ z, cx_L n z → dn n A z s → sbe n A z (w ++ [s]) → klo n A z (fz z)) : klo n A w (kls n A s w (w ++ [s]) f fz Z) := by
  have vL : cx_L n (w ++ [s]) := cx_L_app hw (cx_L_1 hs)
  have vl := dn_1 hok hw hs hd
  have nv : ¬ dn n A (w ++ [s]) s := fun h => (dn_dn hok hw hs).mp h hd
  have vw := sbe_ws hok hw hs hd
  obtain ⟨f1, f2, f3, f4, f5⟩ := id hf
  -- what leans
  have rel : ∀ (i : Nat) (z : List Nat), Z[i]? = some z → dn n A z s → mu n A f (w ++ [s]) z ≠ 0 → sbe n A z (w ++ [s]) ∧ klo n A z (fz z) ∧ cx_l n A z < cx_l n A (w ++ [s]) ∧ 2 * ((cx_l n A w - cx_l n A z) / 2) = cx_l n A w - cx_l n A z := by
    intro i z hz hdz hm
    have zL := (hZ.2.1 i z hz).1
    have hb : sbe n A z (w ++ [s]) := Classical.byContradiction (fun hno => hm (by
      unfold mu
      rw [f2 z zL hno]
      split <;> rfl))
    have hodd : (cx_l n A (w ++ [s]) - cx_l n A z) % 2 = 1 := Classical.byContradiction (fun hno => hm (by
      unfold mu
      rw [if_neg hno]))
    exact ⟨hb, hfz z zL hdz hb, by omega, by omega⟩
  have zero : ∀ (u : List Nat) (k : Nat), (∀ (i : Nat) (z : List Nat), Z[i]? = some z → dn n A z s → sbe n A z (w ++ [s]) → klo n A z (fz z) → cx_l n A z < cx_l n A (w ++ [s]) → 2 * ((cx_l n A w - cx_l n A z) / 2) = cx_l n A w - cx_l n A z → qn ((cx_l n A w - cx_l n A z) / 2) (fz z u) k = 0) → lsm (fun z => lse n A s w (w ++ [s]) f fz z u k) Z = 0 := fun u k h => lsm_0 (fun i z hz => lse_0 (fun hdz hm => by
    obtain ⟨r1, r2, r3, r4⟩ := rel i z hz hdz hm
    exact h i z hz hdz r1 r2 r3 r4))
  refine ⟨?_, fun u hu hno k => ?_, fun k => ?_, fun u hu hne k hk => ?_, fun L hL => ?_⟩
  · intro a b hg
    funext k
    show tau n A s f a k - _ = tau n A s f b k - _
    rw [tau_eg f1 a b hg]
    congr 1
    refine lsm_cg (fun i z hz => ?_)
    unfold lse
    by_cases hdz : dn n A z s
    · rw [cii_p hdz, cii_p hdz]
      by_cases hm : mu n A f (w ++ [s]) z = 0
      · rw [hm, Int.zero_mul, Int.zero_mul]
      · rw [(rel i z hz hdz hm).2.1.1 a b hg]
    · rw [cii_n hdz, cii_n hdz]
  · -- nothing but below
    have usL : cx_L n (u ++ [s]) := cx_L_app hu (cx_L_1 hs)
    have n1 : ¬ sbe n A u (w ++ [s]) := fun h => hno (sbe_tr hok hu vL hw h vw)
    have n2 : ¬ sbe n A (u ++ [s]) (w ++ [s]) := fun h => hno ((sbe_g1 (cx_g_sr hok hs u)).mp (sbe_s hok hw hs hd usL (sbe_tr hok usL vL hw h vw)))
    have z1 := f2 u hu n1
    have z2 := f2 _ usL n2
    show tau n A s f u k - _ = 0
    rw [zero u k (fun i z hz _ r1 r2 _ _ => qn_z _ _ (r2.2.1 u hu (fun h => hno (sbe_tr hok hu (hZ.2.1 i z hz).1 hw h (sbe_tr hok (hZ.2.1 i z hz).1 vL hw r1 vw)))))]
    show cii (dn n A u s) _ _ - 0 = 0
    rw [qs_cg z1, z1, qs_cg z2, z2, qs_0]
    by_cases hdu : dn n A u s
    · rw [cii_p hdu]
      rfl
    · rw [cii_n hdu]
      rfl
  · -- of w itself
    have n1 : ¬ sbe n A w (w ++ [s]) := fun h => by
      have := (sbe_l vL hw h).1
      omega
    have z1 := f2 w hw n1
    show tau n A s f w k - _ = _
    rw [zero w k (fun i z hz _ r1 r2 r3 _ => qn_z _ _ (r2.2.1 w hw (fun h => by
      have := (sbe_l (hZ.2.1 i z hz).1 hw h).1
      omega)))]
    have e1 : tau n A s f w k = f (w ++ [s]) k + qs (f w) k := cii_p hd
    rw [e1, qs_cg z1, qs_0, f3]
    omega
  · -- its powers
    have usL : cx_L n (u ++ [s]) := cx_L_app hu (cx_L_1 hs)
    by_cases hb : sbe n A u w
    · obtain ⟨lb1, lb2⟩ := sbe_l hw hu hb
      have lub : cx_l n A u < cx_l n A w := by
        rcases Nat.lt_or_ge (cx_l n A u) (cx_l n A w) with h | h
        · exact h
        · exact absurd (lb2 (by omega)) hne
      have other : ∀ (z : List Nat), cx_g n A u ≠ cx_g n A z → klo n A z (fz z) → cx_l n A z < cx_l n A (w ++ [s]) → 2 * ((cx_l n A w - cx_l n A z) / 2) = cx_l n A w - cx_l n A z → qn ((cx_l n A w - cx_l n A z) / 2) (fz z u) k = 0 := by
        intro z hzu r2 r3 r4
        rw [qn_at]
        by_cases hkj : k < (cx_l n A w - cx_l n A z) / 2
        · rw [if_pos hkj]
        · rw [if_neg hkj]
          exact r2.2.2.2.1 u hu hzu _ (by omega)
      show tau n A s f u k - lsm (fun z => lse n A s w (w ++ [s]) f fz z u k) Z = 0
      by_cases hdu : dn n A u s
      · have l1 := dn_1 hok hu hs hdu
        have e1 : tau n A s f u k = f (u ++ [s]) k + qs (f u) k := cii_p hdu
        have nv2 : cx_g n A (u ++ [s]) ≠ cx_g n A (w ++ [s]) := fun h => hne (by
          have := cx_g_ap1 [s] h
          rw [cx_g_sr hok hs, cx_g_sr hok hs] at this
          exact this)
        have uv : cx_g n A u ≠ cx_g n A (w ++ [s]) := fun h => nv ((dn_g h s).mp hdu)
        obtain ⟨k', rfl⟩ : ∃ k', k = k' + 1 := ⟨k - 1, by omega⟩
        rw [e1, f4 _ usL nv2 (k' + 1) (by omega)]
        show 0 + f u k' - _ = 0
        by_cases h2k : cx_l n A w = cx_l n A u + 2 * (k' + 1)
        · -- u itself leans
          have hmu : mu n A f (w ++ [s]) u = f u k' := by
            unfold mu
            rw [if_pos (by omega), show (cx_l n A (w ++ [s]) - cx_l n A u - 1) / 2 = k' by omega]
          by_cases hbu : sbe n A u (w ++ [s])
          · obtain ⟨i0, z0, hz0, hg0⟩ := hZ.2.2 u hu (hQ u hu hbu)
            have hi0 := (List.getElem?_eq_some_iff.mp hz0).1
            have z0L := (hZ.2.1 i0 z0 hz0).1
            have hd0 : dn n A z0 s := (dn_g hg0 s).mpr hdu
            have hb0 : sbe n A z0 (w ++ [s]) := (sbe_g1 hg0).mpr hbu
            have k0 := hfz z0 z0L hd0 hb0
            have l0 : cx_l n A z0 = cx_l n A u := cx_l_eq hg0
            have sm : lsm (fun z => lse n A s w (w ++ [s]) f fz z u (k' + 1)) Z = lse n A s w (w ++ [s]) f fz z0 u (k' + 1) := by
              unfold lsm
              rw [cx_one1 (i0 := i0) hi0 (fun i hi hne2 => lse_0 (fun hdz hm => by
                obtain ⟨r1, r2, r3, r4⟩ := rel i _ (gd_ex hi) hdz hm
                exact other _ (fun e => hne2 (hZ.1 i i0 _ z0 (gd_ex hi) hz0 (e.symm.trans hg0.symm))) r2 r3 r4)), gd_of hz0]
            have mu0 : mu n A f (w ++ [s]) z0 = f u k' := by
              unfold mu at hmu ⊢
              rw [l0, f1 z0 u hg0]
              exact hmu
            rw [sm]
            unfold lse
            rw [cii_p hd0, mu0, l0, qn_at, if_neg (by omega), show k' + 1 - (cx_l n A w - cx_l n A u) / 2 = 0 by omega, k0.1 u z0 hg0.symm, k0.2.2.1 0, if_pos rfl, Int.mul_one]
            omega
          · rw [f2 u hu hbu, zero u (k' + 1) (fun i z hz _ r1 r2 r3 r4 => other z (fun e => hbu ((sbe_g1 e).mpr r1)) r2 r3 r4)]
            rfl
        · rw [f4 u hu uv k' (by omega), zero u (k' + 1) (fun i z hz hdz r1 r2 r3 r4 => by
            by_cases hzu : cx_g n A u = cx_g n A z
            · have l0 : cx_l n A z = cx_l n A u := (cx_l_eq hzu).symm
              rw [qn_at]
              by_cases hkj : k' + 1 < (cx_l n A w - cx_l n A z) / 2
              · rw [if_pos hkj]
              · rw [if_neg hkj, r2.1 u z hzu, r2.2.2.1, if_neg (by omega)]
            · exact other z hzu r2 r3 r4)]
          rfl
      · have up := up_1 hok hu hs hdu
        have e1 : tau n A s f u k = qs (f (u ++ [s])) k + f u k := cii_n hdu
        have du := (dn_dn hok hu hs).mpr hdu
        have nv2 : cx_g n A (u ++ [s]) ≠ cx_g n A (w ++ [s]) := fun h => nv ((dn_g h s).mp du)
        obtain ⟨k', rfl⟩ : ∃ k', k = k' + 1 := ⟨k - 1, by omega⟩
        have z1 : f u (k' + 1) = 0 := by
          by_cases huv : cx_g n A u = cx_g n A (w ++ [s])
          · rw [f1 u _ huv, f3, if_neg (by omega)]
          · exact f4 u hu huv _ (by omega)
        rw [e1, z1]
        show f (u ++ [s]) k' + 0 - _ = 0
        rw [f4 _ usL nv2 k' (by omega), zero u (k' + 1) (fun i z hz hdz r1 r2 r3 r4 => other z (fun e => hdu ((dn_g e s).mpr hdz)) r2 r3 r4)]
        rfl
    · -- what is not below
      have n1 : ¬ sbe n A u (w ++ [s]) := fun h => hb (sbe_tr hok hu vL hw h vw)
      have n2 : ¬ sbe n A (u ++ [s]) (w ++ [s]) := fun h => hb ((sbe_g1 (cx_g_sr hok hs u)).mp (sbe_s hok hw hs hd usL (sbe_tr hok usL vL hw h vw)))
      have z1 := f2 u hu n1
      have z2 := f2 _ usL n2
      show tau n A s f u k - _ = 0
      rw [zero u k (fun i z hz _ r1 r2 _ _ => qn_z _ _ (r2.2.1 u hu (fun h => hb (sbe_tr hok hu (hZ.2.1 i z hz).1 hw h (sbe_tr hok (hZ.2.1 i z hz).1 vL hw r1 vw)))))]
      show cii (dn n A u s) _ _ - 0 = 0
      rw [qs_cg z1, z1, qs_cg z2, z2, qs_0]
      by_cases hdu : dn n A u s
      · rw [cii_p hdu]
        rfl
      · rw [cii_n hdu]
        rfl
  · -- turned over
    have s1 : sdl n A (cx_l n A w) L (tau n A s f) := by
      have := sdl_tau hok hw hs hd hL f1 (klo_L hok vL hw hf vw hL)
      rw [vl] at this
      exact this
    have s2 : sdl n A (cx_l n A w) L (fun u k => cx_sum Z.length (fun i => lse n A s w (w ++ [s]) f fz (Z.getD i []) u k)) := by
      refine sdl_sum Z.length (fun i hi => ?_)
      have hz := gd_ex hi
      generalize Z.getD i [] = z at hz
      by_cases hdz : dn n A z s
      · by_cases hm : mu n A f (w ++ [s]) z = 0
        · refine sdl_cg (sdl_0 _) (fun u k => ?_)
          unfold lse
          rw [cii_p hdz, hm, Int.zero_mul]
        · obtain ⟨r1, r2, r3, r4⟩ := rel i z hz hdz hm
          have zL := (hZ.2.1 i z hz).1
          have q1 := sdl_q (j := (cx_l n A w - cx_l n A z) / 2) (klo_L hok zL hw r2 (sbe_tr hok zL vL hw r1 vw) hL)
          rw [show cx_l n A z + 2 * ((cx_l n A w - cx_l n A z) / 2) = cx_l n A w by omega] at q1
          refine sdl_cg (sdl_lin (mu n A f (w ++ [s]) z) (sdl_0 _) q1) (fun u k => ?_)
          unfold lse
          rw [cii_p hdz, Int.zero_add]
      · refine sdl_cg (sdl_0 _) (fun u k => ?_)
        unfold lse
        rw [cii_n hdz]
    refine sdl_cg (sdl_lin (-1) s1 s2) (fun u k => ?_)
    show tau n A s f u k + -1 * lsm (fun z => lse n A s w (w ++ [s]) f fz z u k) Z = tau n A s f u k - lsm (fun z => lse n A s w (w ++ [s]) f fz z u k) Z
    rw [Int.neg_mul, Int.one_mul]
    omega
end S
