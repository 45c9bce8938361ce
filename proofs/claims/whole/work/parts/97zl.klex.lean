/-! P: there is one, and how it is found from the longer ones. -/
section S
variable {n : Nat} {A : Nat → Nat → Int} {u v w x y z : List Nat} {L W : List (List Nat)} {f g : List Nat → Nat → Int}
theorem cnv_d {a b : Nat → Int} (hb : ∀ k, b k = if k = 0 then 1 else 0) (k : Nat) : cnv a b k = a k := by
  unfold cnv
  rw [cx_one1 (i0 := k) (by omega) (fun i hi hne => by rw [hb, if_neg (by omega), Int.mul_zero]), hb, if_pos (by omega), Int.mul_one]
theorem cnv_e {a b : Nat → Int} (ha : ∀ k, a k = if k = 0 then 1 else 0) (k : Nat) : cnv a b k = b k := by
  unfold cnv
  rw [cx_one1 (i0 := 0) (by omega) (fun i hi hne => by rw [ha, if_neg (by omega), Int.zero_mul]), ha, if_pos rfl, Int.one_mul, Nat.sub_zero]
theorem cnv_z {a b : Nat → Int} (ha : ∀ k, a k = 0) (k : Nat) : cnv a b k = 0 := by
  unfold cnv
  rw [cx_sum_eq (g := fun _ => 0) (fun i _ => by rw [ha, Int.zero_mul]), cx_sum_z]
theorem klo_0 (hok : cx_ok n A) (hw : cx_L n w) (h0 : cx_l n A w = 0) : klo n A w (rd0 n A) := by
  have gw : cx_g n A w = cx_g n A [] := cx_l_0 hw h0
  have one : idl n A w [[]] := by
    refine ⟨lds_1 [], fun i u hu => ?_, fun z hz hp => ⟨0, [], rfl, ?_⟩⟩
    · rw [List.mem_singleton.mp (List.mem_of_getElem? hu)]
      exact ⟨cx_L_nil, (sbe_g1 gw).mp (sbe_rf hw)⟩
    · have := (sbe_l hw hz hp).1
      exact (cx_l_0 hz (by omega)).symm
  refine ⟨rd0_eg, fun u hu hno k => ?_, fun k => cii_p h0, fun u hu hne k hk => ?_, fun L hL => ⟨fun u hu k => ?_, fun u hu k hk => ?_⟩⟩
  · exact cii_n (fun h => hno ((sbe_g1 (gw.trans (cx_l_0 hu h).symm)).mp (sbe_rf hw)))
  · exact cii_n (fun h => hne ((cx_l_0 hu h).trans gw.symm))
  · have e1 : phi n A L (rd0 n A) u k = phi n A [[]] (rd0 n A) u k := lsm_eq (fun a b hg => by rw [Rx_g hg, rd0_eg a b hg]) hL one
    have e2 : phi n A [[]] (rd0 n A) u k = cnv (Rx n A [] u) (rd0 n A []) k := by
      show 0 + cnv (Rx n A [] u) (rd0 n A []) k = _
      rw [Int.zero_add]
    rw [e1, e2, cnv_d (b := rd0 n A []) (fun k => cii_p cx_l_nil), Rx_u hok cx_L_nil hu (by rw [cx_l_nil]; omega), h0]
    by_cases hu0 : cx_l n A u = 0
    · rw [cii_p (cx_l_0 hu hu0)]
      by_cases hk : k = 0
      · rw [if_pos hk, if_pos (by omega), show rd0 n A u (0 - cx_l n A u - k) = if 0 - cx_l n A u - k = 0 then 1 else 0 from cii_p hu0, if_pos (by omega)]
      · rw [if_neg hk, if_neg (by omega)]
    · rw [cii_n (fun h => hu0 (by rw [cx_l_eq h, cx_l_nil])), if_neg (by omega)]
  · by_cases hu0 : cx_l n A u = 0
    · rw [show rd0 n A u k = if k = 0 then 1 else 0 from cii_p hu0, if_neg (by omega)]
    · exact cii_n hu0
theorem klo_ex (hok : cx_ok n A) : ∀ (m : Nat) (w : List Nat), cx_L n w → cx_l n A w ≤ m → ∃ f, klo n A w f := by
  intro m
  induction m with
  | zero => exact fun w hw hl => ⟨_, klo_0 hok hw (by omega)⟩
  | succ m ih =>
    intro w hw hl
    by_cases h0 : cx_l n A w = 0
    · exact ⟨_, klo_0 hok hw h0⟩
    · obtain ⟨t, ht, hd⟩ := cx_ex_dn hok hw h0
      have vL : cx_L n (w ++ [t]) := cx_L_app hw (cx_L_1 ht)
      have vl := dn_1 hok hw ht hd
      obtain ⟨f, hf⟩ := ih (w ++ [t]) vL (by omega)
      obtain ⟨Z, hZ⟩ := idl_ex (A := A) vL
      have hz : ∀ z : List Nat, ∃ fz, cx_L n z ∧ sbe n A z (w ++ [t]) → klo n A z fz := fun z => by
        by_cases h : cx_L n z ∧ sbe n A z (w ++ [t])
        · obtain ⟨fz, hfz⟩ := ih z h.1 (by have := (sbe_l vL h.1 h.2).1; omega)
          exact ⟨fz, fun _ => hfz⟩
        · exact ⟨fun _ _ => 0, fun hh => absurd hh h⟩
      exact ⟨_, klo_s hok hw ht hd hf hZ (fun z _ h => h) (fz := fun z => Classical.choose (hz z)) (fun z zL _ hb => Classical.choose_spec (hz z) ⟨zL, hb⟩)⟩
/-- of its low powers: by the longer ones -/
theorem klo_r (hok : cx_ok n A) (hw : cx_L n w) (h : klo n A w f) (hL : idl n A w L) (hu : cx_L n u) (hb : sbe n A u w) {k : Nat} (hk : cx_l n A u + 2 * k < cx_l n A w) : f u k = - lsm (fun x => cii (cx_l n A u < cx_l n A x) (cnv (Rx n A x u) (f x) k) 0) L := by
  obtain ⟨h1, h2, h3, h4, h5⟩ := h
  have hne : cx_g n A u ≠ cx_g n A w := fun e => by
    have := cx_l_eq e
    omega
  have e1 := (h5 L hL).1 u hu k
  rw [if_pos (by omega), h4 u hu hne _ (by omega)] at e1
  have e2 : phi n A L f u k = lsm (fun x => cii (cx_l n A u < cx_l n A x) (cnv (Rx n A x u) (f x) k) 0) L + lsm (fun x => cii (cx_g n A x = cx_g n A u) (f u k) 0) L := by
    rw [← lsm_add]
    refine lsm_cg (fun i x hx => ?_)
    have xL := (hL.2.1 i x hx).1
    by_cases hlt : cx_l n A u < cx_l n A x
    · rw [cii_p hlt, cii_n (fun e => by have := cx_l_eq e; omega), Int.add_zero]
    · have r := Rx_u hok xL hu (by omega)
      rw [cii_n hlt, Int.zero_add]
      by_cases he : cx_g n A x = cx_g n A u
      · rw [cii_p he, cnv_e (fun k => by rw [r k, cii_p he.symm]), h1 x u he]
      · rw [cii_n he, cnv_z (fun k => by rw [r k, cii_n (fun e => he e.symm)])]
  have e3 : lsm (fun x => cii (cx_g n A x = cx_g n A u) (f u k) 0) L = f u k := by
    obtain ⟨i0, x0, hx0, hg0⟩ := hL.2.2 u hu hb
    have hi0 := (List.getElem?_eq_some_iff.mp hx0).1
    unfold lsm
    rw [cx_one1 (i0 := i0) hi0 (fun i hi hne2 => cii_n (fun e => hne2 (hL.1 i i0 _ x0 (gd_ex hi) hx0 (e.trans hg0.symm)))), gd_of hx0, cii_p hg0]
  rw [e2, e3] at e1
  omega
theorem bqA_idl (hok : cx_ok n A) (yL : cx_L n y) (yl : cx_l n A y = y.length) (h : bqA n A y W) : idl n A y W := by
  refine ⟨h.2.1, fun i u hu => ?_, fun z hz hp => ?_⟩
  · obtain ⟨a1, a2⟩ := h.2.2.1 i u hu
    exact ⟨a1, (sbe_w hok a1 yL yl yL rfl).mpr a2⟩
  · obtain ⟨q, b1, b2⟩ := (sbe_w hok hz yL yl yL rfl).mp hp
    obtain ⟨i, u, c1, c2⟩ := h.2.2.2 q b1
    exact ⟨i, u, c1, c2.trans b2⟩
end S
