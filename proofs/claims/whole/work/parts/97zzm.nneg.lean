/-! The numbers of P: if none is under 0, they are in range. -/
def knn (n : Nat) (A : Nat → Nat → Int) (m : Nat) : Prop := ∀ (w : List Nat) (f : List Nat → Nat → Int), cx_L n w → cx_l n A w ≤ m → klo n A w f → ∀ u, cx_L n u → ∀ k, 0 ≤ f u k
theorem csum_nn {f : Nat → Int} : ∀ (N : Nat), (∀ i, i < N → 0 ≤ f i) → 0 ≤ cx_sum N f := by
  intro N
  induction N with
  | zero =>
    intro _
    exact Int.le_refl _
  | succ N ih =>
    intro h
    have h1 := ih (fun i hi => h i (by omega))
    have h2 := h N (by omega)
    show 0 ≤ cx_sum N f + f N
    omega
theorem lsm_nn {F : List Nat → Int} {L : List (List Nat)} (h : ∀ (i : Nat) (z : List Nat), L[i]? = some z → 0 ≤ F z) : 0 ≤ lsm F L := csum_nn _ (fun i hi => h i _ (gd_ex hi))
theorem qs_nn {g : Nat → Int} (h : ∀ k, 0 ≤ g k) (k : Nat) : 0 ≤ qs g k := by
  cases k with
  | zero => exact Int.le_refl _
  | succ k => exact h k
theorem qs_bd {g : Nat → Int} {B : Int} (hB : 0 ≤ B) (h : ∀ k, g k ≤ B) (k : Nat) : qs g k ≤ B := by
  cases k with
  | zero => exact hB
  | succ k => exact h k
theorem qn_nn {g : Nat → Int} (h : ∀ k, 0 ≤ g k) : ∀ j k, 0 ≤ qn j g k := by
  intro j
  induction j with
  | zero => exact h
  | succ j ih => exact fun k => qs_nn ih k
section S
variable {n : Nat} {A : Nat → Nat → Int}
theorem knn_bd (hok : cx_ok n A) {m : Nat} (hm : knn n A m) : ∀ (M : Nat) (w : List Nat) (f : List Nat → Nat → Int), cx_L n w → cx_l n A w ≤ M → cx_l n A w ≤ m → klo n A w f → ∀ u, cx_L n u → ∀ k, f u k ≤ (2 : Int) ^ M := by
  have zero : ∀ (M : Nat) (w : List Nat) (f : List Nat → Nat → Int), cx_L n w → cx_l n A w = 0 → klo n A w f → ∀ u, cx_L n u → ∀ k, f u k ≤ (2 : Int) ^ M := by
    intro M w f hw l0 hk u hu k
    have p1 : (1 : Int) ≤ 2 ^ M := by
      have : 0 < (2 : Int) ^ M := Int.pow_pos (by decide)
      omega
    rw [klo_un hok hw hk (klo_0 hok hw l0) 0 u hu (by omega) k]
    unfold rd0
    by_cases hz : cx_l n A u = 0
    · rw [cii_p hz]
      split <;> omega
    · rw [cii_n hz]
      omega
  intro M
  induction M with
  | zero => exact fun w f hw hl _ hk => zero 0 w f hw (by omega) hk
  | succ M ih =>
    intro w f hw hl hlm hk u hu k
    by_cases h0 : cx_l n A w = 0
    · exact zero (M + 1) w f hw h0 hk u hu k
    · obtain ⟨t, ht, hd⟩ := cx_ex_dn hok hw h0
      have vL : cx_L n (w ++ [t]) := cx_L_app hw (cx_L_1 ht)
      have vl := dn_1 hok hw ht hd
      obtain ⟨g, hg⟩ := klo_ex hok _ (w ++ [t]) vL (Nat.le_refl _)
      obtain ⟨Z, hZ⟩ := idl_ex (A := A) vL
      have hz : ∀ z : List Nat, ∃ fz, cx_L n z ∧ sbe n A z (w ++ [t]) → klo n A z fz := fun z => by
        by_cases h : cx_L n z ∧ sbe n A z (w ++ [t])
        · obtain ⟨fz, hfz⟩ := klo_ex hok _ z h.1 (Nat.le_refl _)
          exact ⟨fz, fun _ => hfz⟩
        · exact ⟨fun _ _ => 0, fun hh => absurd hh h⟩
      have K := klo_s hok hw ht hd hg hZ (fun z _ h => h) (fz := fun z => Classical.choose (hz z)) (fun z zL _ hb => Classical.choose_spec (hz z) ⟨zL, hb⟩)
      rw [klo_un hok hw hk K (cx_l n A w) u hu (by omega) k]
      have gn : ∀ z, cx_L n z → ∀ j, 0 ≤ g z j := fun z zL j => hm (w ++ [t]) g vL (by omega) hg z zL j
      have gb : ∀ z, cx_L n z → ∀ j, g z j ≤ (2 : Int) ^ M := fun z zL j => ih (w ++ [t]) g vL (by omega) (by omega) hg z zL j
      have utL : cx_L n (u ++ [t]) := cx_L_app hu (cx_L_1 ht)
      have p0 : (0 : Int) ≤ 2 ^ M := Int.le_of_lt (Int.pow_pos (by decide))
      have taken : 0 ≤ lsm (fun z => lse n A t w (w ++ [t]) g (fun z => Classical.choose (hz z)) z u k) Z := by
        refine lsm_nn (fun i z hi => ?_)
        have zP := hZ.2.1 i z hi
        have zk := Classical.choose_spec (hz z) ⟨zP.1, zP.2⟩
        have zl := (sbe_l vL zP.1 zP.2).1
        show 0 ≤ cii (dn n A z t) (mu n A g (w ++ [t]) z * qn ((cx_l n A w - cx_l n A z) / 2) (Classical.choose (hz z) u) k) 0
        by_cases hdz : dn n A z t
        · rw [cii_p hdz]
          refine Int.mul_nonneg ?_ (qn_nn (fun j => hm z _ zP.1 (by omega) zk u hu j) _ k)
          unfold mu
          split
          · exact gn z zP.1 _
          · exact Int.le_refl _
        · rw [cii_n hdz]
          exact Int.le_refl _
      have spread : tau n A t g u k ≤ (2 : Int) ^ (M + 1) := by
        rw [Int.pow_succ]
        have a1 := gb (u ++ [t]) utL k
        have a2 := qs_bd p0 (fun j => gb u hu j) k
        have a3 := qs_bd p0 (fun j => gb (u ++ [t]) utL j) k
        have a4 := gb u hu k
        show cii (dn n A u t) (g (u ++ [t]) k + qs (g u) k) (qs (g (u ++ [t])) k + g u k) ≤ _
        by_cases hdu : dn n A u t
        · rw [cii_p hdu]
          omega
        · rw [cii_n hdu]
          omega
      show tau n A t g u k - lsm (fun z => lse n A t w (w ++ [t]) g (fun z => Classical.choose (hz z)) z u k) Z ≤ _
      omega
theorem kpm_of (hok : cx_ok n A) (h : knn n A 8) : kpm n A 8 := by
  intro w f hw hl hk u hu k _
  have b := knn_bd hok h 8 w f hw hl hl hk u hu k
  have e : (2 : Int) ^ 8 = 256 := by decide
  rw [e] at b
  exact ⟨h w f hw hl hk u hu k, by omega⟩
end S
/-- no number of P is under 0 -/
def KN : Prop := ∀ (n : Nat) (T : tT), tok T → 1 ≤ n → n ≤ 5 → knn n (gA T) 8
theorem KP_of (h : KN) : KP := fun n T hT h1 h5 => kpm_of (gA_ok hT n) (h n T hT h1 h5)
