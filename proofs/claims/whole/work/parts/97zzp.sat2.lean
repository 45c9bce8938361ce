/-! SAT: P is not under 0 where what may lean lies above no saturated element but itself. -/
theorem qn_un : ∀ (j k : Nat), qn j (fun k => if k = 0 then 1 else 0) k = if k = j then 1 else 0 := by
  intro j
  induction j with
  | zero => exact fun k => rfl
  | succ j ih =>
    intro k
    cases k with
    | zero =>
      show (0 : Int) = _
      rw [if_neg (by omega)]
    | succ k =>
      show qn j (fun k => if k = 0 then 1 else 0) k = _
      rw [ih k]
      by_cases h : k = j
      · rw [if_pos h, if_pos (by omega)]
      · rw [if_neg h, if_neg (by omega)]
theorem qn_00 {g : Nat → Int} (h : ∀ k, g k = 0) : ∀ j k, qn j g k = 0 := by
  intro j
  induction j with
  | zero => exact h
  | succ j ih =>
    intro k
    cases k with
    | zero => rfl
    | succ k => exact ih k
section S
variable {n : Nat} {A : Nat → Nat → Int} {s m : Nat} {w : List Nat} {f : List Nat → Nat → Int}
theorem sat_nn (hok : cx_ok n A) (hw : cx_L n w) (hs : s < n) (hd : dn n A w s) (hm : knn n A m) (hml : cx_l n A w ≤ m + 1) (hk : klo n A w f) (H : ∀ z u, cx_L n z → cx_L n u → sbe n A z (w ++ [s]) → cx_l n A z < cx_l n A (w ++ [s]) → dn n A z s → (cx_l n A (w ++ [s]) - cx_l n A z) % 2 = 1 → (∀ b, b < n → dn n A (w ++ [s]) b → dn n A z b ∨ cx_g n A z = cx_g n A (w ++ [s] ++ [b])) → (∀ b, b < n → dn n A w b → dn n A u b) → sbe n A u z → cx_g n A u = cx_g n A z) : ∀ u, cx_L n u → ∀ k, 0 ≤ f u k := by
  have vL : cx_L n (w ++ [s]) := cx_L_app hw (cx_L_1 hs)
  have vl := dn_1 hok hw hs hd
  have nv : ¬ dn n A (w ++ [s]) s := fun h => (dn_dn hok hw hs).mp h hd
  obtain ⟨g, hg⟩ := klo_ex hok _ (w ++ [s]) vL (Nat.le_refl _)
  obtain ⟨Z, hZ⟩ := idl_ex (A := A) vL
  have hz : ∀ z : List Nat, ∃ fz, cx_L n z ∧ sbe n A z (w ++ [s]) → klo n A z fz := fun z => by
    by_cases h : cx_L n z ∧ sbe n A z (w ++ [s])
    · obtain ⟨fz, hfz⟩ := klo_ex hok _ z h.1 (Nat.le_refl _)
      exact ⟨fz, fun _ => hfz⟩
    · exact ⟨fun _ _ => 0, fun hh => absurd hh h⟩
  have K := klo_s hok hw hs hd hg hZ (fun z _ h => h) (fz := fun z => Classical.choose (hz z)) (fun z zL _ hb => Classical.choose_spec (hz z) ⟨zL, hb⟩)
  have gn : ∀ z, cx_L n z → ∀ j, 0 ≤ g z j := fun z zL j => hm (w ++ [s]) g vL (by omega) hg z zL j
  have main : ∀ u, cx_L n u → (∀ b, b < n → dn n A w b → dn n A u b) → ∀ k, 0 ≤ f u k := by
    intro u hu hsat k
    have dus := hsat s hs hd
    have usL : cx_L n (u ++ [s]) := cx_L_app hu (cx_L_1 hs)
    rw [klo_un hok hw hk K (cx_l n A w) u hu (by omega) k]
    have e1 : tau n A s g u k = g (u ++ [s]) k + qs (g u) k := cii_p dus
    have p1 := gn (u ++ [s]) usL k
    have p2 := qs_nn (fun j => gn u hu j) k
    have other : ∀ (i : Nat) (z : List Nat), Z[i]? = some z → cx_g n A z ≠ cx_g n A u → lse n A s w (w ++ [s]) g (fun z => Classical.choose (hz z)) z u k = 0 := by
      intro i z hi hne
      have zP := hZ.2.1 i z hi
      have zk := Classical.choose_spec (hz z) ⟨zP.1, zP.2⟩
      refine lse_0 (fun hdz hmu => qn_00 (fun j => zk.2.1 u hu (fun hb => hne ?_) j) _ k)
      have zl := sbe_l vL zP.1 zP.2
      have zlt : cx_l n A z < cx_l n A (w ++ [s]) := by
        by_cases he : cx_l n A z = cx_l n A (w ++ [s])
        · exact absurd ((dn_g (zl.2 he) s).mp hdz) nv
        · have := zl.1
          omega
      have par : (cx_l n A (w ++ [s]) - cx_l n A z) % 2 = 1 := by
        by_cases hp : (cx_l n A (w ++ [s]) - cx_l n A z) % 2 = 1
        · exact hp
        · refine absurd ?_ hmu
          unfold mu
          rw [if_neg hp]
      exact (H z u zP.1 hu zP.2 zlt hdz par (fun b hb hdv => mu_D hok vL hg zP.1 zlt hmu hb hdv) hsat hb).symm
    have le : lsm (fun z => lse n A s w (w ++ [s]) g (fun z => Classical.choose (hz z)) z u k) Z ≤ qs (g u) k := by
      by_cases hex : ∃ (i : Nat) (z : List Nat), Z[i]? = some z ∧ cx_g n A z = cx_g n A u
      · obtain ⟨i, z, hi, hgz⟩ := hex
        have zP := hZ.2.1 i z hi
        have zk := Classical.choose_spec (hz z) ⟨zP.1, zP.2⟩
        have il := (List.getElem?_eq_some_iff.mp hi).1
        have one : lsm (fun z => lse n A s w (w ++ [s]) g (fun z => Classical.choose (hz z)) z u k) Z = lse n A s w (w ++ [s]) g (fun z => Classical.choose (hz z)) z u k := by
          unfold lsm
          rw [cx_one1 (i0 := i) il (fun i' hi' hne => other i' _ (gd_ex hi') (fun e => hne (hZ.1 i' i _ z (gd_ex hi') hi (e.trans hgz.symm)))), gd_of hi]
        rw [one]
        have eu : Classical.choose (hz z) u = fun k => if k = 0 then 1 else 0 := by
          funext j
          rw [← zk.1 z u hgz]
          exact zk.2.2.1 j
        show cii (dn n A z s) (mu n A g (w ++ [s]) z * qn ((cx_l n A w - cx_l n A z) / 2) (Classical.choose (hz z) u) k) 0 ≤ qs (g u) k
        rw [cii_p ((dn_g hgz s).mpr dus), eu, qn_un]
        have lz : cx_l n A z = cx_l n A u := cx_l_eq hgz
        unfold mu
        rw [hg.1 z u hgz, lz]
        by_cases hp : (cx_l n A (w ++ [s]) - cx_l n A u) % 2 = 1
        · rw [if_pos hp]
          by_cases hj : k = (cx_l n A w - cx_l n A u) / 2
          · rw [if_pos hj, Int.mul_one]
            obtain ⟨j, ej⟩ : ∃ j, k = j + 1 := ⟨k - 1, by omega⟩
            rw [ej]
            show _ ≤ g u j
            rw [show (cx_l n A (w ++ [s]) - cx_l n A u - 1) / 2 = j by omega]
            exact Int.le_refl _
          · rw [if_neg hj, Int.mul_zero]
            exact p2
        · rw [if_neg hp, Int.zero_mul]
          exact p2
      · rw [lsm_0 (fun i z hi => other i z hi (fun e => hex ⟨i, z, hi, e⟩))]
        exact p2
    show 0 ≤ tau n A s g u k - lsm (fun z => lse n A s w (w ++ [s]) g (fun z => Classical.choose (hz z)) z u k) Z
    omega
  have all : ∀ (d : Nat) (u : List Nat), cx_L n u → cx_l n A w < cx_l n A u + d → ∀ k, 0 ≤ f u k := by
    intro d
    induction d with
    | zero =>
      intro u hu hl k
      rw [hk.2.1 u hu (fun hb => by have := (sbe_l hw hu hb).1; omega) k]
      exact Int.le_refl _
    | succ d ih =>
      intro u hu hl k
      by_cases hsat : ∀ b, b < n → dn n A w b → dn n A u b
      · exact main u hu hsat k
      · obtain ⟨b, hb⟩ := Classical.not_forall.mp hsat
        have hb1 : b < n := Classical.byContradiction (fun h => hb (fun h' => absurd h' h))
        have hb2 : dn n A w b := Classical.byContradiction (fun h => hb (fun _ h' => absurd h' h))
        have hb3 : ¬ dn n A u b := fun h => hb (fun _ _ => h)
        rw [← klo_sy hok _ w f b hw (Nat.le_refl _) hk hb1 hb2 u hu k]
        have ul := up_1 hok hu hb1 hb3
        exact ih (u ++ [b]) (cx_L_app hu (cx_L_1 hb1)) (by omega) k
  exact fun u hu k => all (cx_l n A w + 1) u hu (by omega) k
end S
