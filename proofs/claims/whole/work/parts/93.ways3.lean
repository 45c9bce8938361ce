/-! When all were stepped down from, the last has the number of ways. -/
section S
variable {n : Nat} {A : Nat → Nat → Int}
theorem gd_of {ws : List (List Nat)} {i : Nat} {u : List Nat} (h : ws[i]? = some u) : ws.getD i [] = u := by
  rw [List.getD_eq_getElem?_getD, h]
  rfl
theorem gd_ex {ws : List (List Nat)} {i : Nat} (h : i < ws.length) : ws[i]? = some (ws.getD i []) := by
  rw [gd_of (List.getElem?_eq_getElem h)]
  exact List.getElem?_eq_getElem h
/-- ways go only to what is on the list -/
theorem wys_in {w : List Nat} {ws : List (List Nat)} (hok : cx_ok n A) (h0 : ws[0]? = some w) (he : ∀ (i j : Nat) (u : List Nat), ws[i]? = some u → j < n → dn n A u j → ∃ (m : Nat) (v : List Nat), ws[m]? = some v ∧ cx_g n A v = cx_g n A (u ++ [j])) (hL : ∀ (i : Nat) (u : List Nat), ws[i]? = some u → cx_L n u) : ∀ (k : Nat) {y : List Nat}, cx_L n y → (∀ (i : Nat) (u : List Nat), ws[i]? = some u → cx_g n A u ≠ cx_g n A y) → wys n A w k y = 0 := by
  intro k
  induction k with
  | zero =>
    intro y hy hn
    unfold wys
    exact cif_n (hn 0 w h0)
  | succ k ih =>
    intro y hy hn
    unfold wys
    rw [sumj_cg (g := fun _ => 0) (fun j hj => ?_), sumj_0]
    by_cases hd : dn n A y j
    · rw [cif_p hd]
    · rw [cif_n hd]
      refine ih (cx_L_app hy (cx_L_1 hj)) (fun i u hu hg => ?_)
      have := (up_dn hok (hL i u hu) hy hj).mpr ⟨hd, hg⟩
      obtain ⟨m, v, hm, hv⟩ := he i j u hu hj this.1
      exact hn m v hm (hv.trans this.2)
/-- all were stepped down from -/
def qfn (n : Nat) (A : Nat → Nat → Int) (w : List Nat) (ws : List (List Nat)) (c : Nat → Int64) : Prop := (ws[0]? = some w) ∧ (∀ (i j : Nat) (u v : List Nat), ws[i]? = some u → ws[j]? = some v → cx_g n A u = cx_g n A v → i = j) ∧ (∀ (i : Nat) (u : List Nat), ws[i]? = some u → cx_L n u) ∧ (∀ (i : Nat) (u : List Nat), ws[i]? = some u → cx_l n A u ≤ cx_l n A w ∧ (cx_l n A u = cx_l n A w → cx_g n A u = cx_g n A w)) ∧ (∀ (i j : Nat) (u v : List Nat), ws[i]? = some u → ws[j]? = some v → i ≤ j → cx_l n A v ≤ cx_l n A u) ∧ (∀ (i j : Nat) (u : List Nat), ws[i]? = some u → j < n → dn n A u j → ∃ (m : Nat) (v : List Nat), ws[m]? = some v ∧ cx_g n A v = cx_g n A (u ++ [j])) ∧ (∀ (m : Nat) (u : List Nat), ws[m]? = some u → c m = cif (m = 0) 1 0 + sumj ws.length (fun i => ctr n A (ws.getD i []) (c i) n u))
theorem qfn_c (hok : cx_ok n A) {w : List Nat} {ws : List (List Nat)} {c : Nat → Int64} (h : qfn n A w ws c) : ∀ (m : Nat) (z : List Nat), ws[m]? = some z → c m = wys n A w (cx_l n A w - cx_l n A z) z := by
  intro m
  induction m using Nat.strongRecOn with
  | _ m ih =>
    intro z hz
    have zL := h.2.2.1 m z hz
    have up : ∀ j, j < n → ¬ dn n A z j → cx_l n A (z ++ [j]) = cx_l n A z + 1 := by
      intro j hj hd
      have h1 := dn_1 hok (cx_L_app zL (cx_L_1 hj)) hj ((dn_dn hok zL hj).mpr hd)
      rw [cx_l_eq (cx_g_sr hok hj z)] at h1
      omega
    have e := way_s (c := c) (V := fun y => wys n A w (cx_l n A w - cx_l n A y) y) (L := fun i => ws.getD i []) (m := ws.length) hok zL (fun i hi => h.2.2.1 i _ (gd_ex hi)) (fun i j hi hj hg => h.2.1 i j _ _ (gd_ex hi) (gd_ex hj) hg) (fun i j hi hj hnd hg => by
      have hg : cx_g n A (ws.getD i []) = cx_g n A (z ++ [j]) := hg
      have hl : cx_l n A (ws.getD i []) = cx_l n A z + 1 := (cx_l_eq hg).trans (up j hj hnd)
      have him : i < m := by
        apply Classical.byContradiction
        intro hh
        have := h.2.2.2.2.1 m i _ _ hz (gd_ex hi) (by omega)
        omega
      rw [ih i him _ (gd_ex hi), cx_l_eq hg]
      exact wys_cg _ hg) (fun j hj hnd hno => wys_in hok h.1 h.2.2.2.2.2.1 h.2.2.1 _ (cx_L_app zL (cx_L_1 hj)) (fun i u hu hg => hno i (List.getElem?_eq_some_iff.mp hu).1 (by rw [gd_of hu]; exact hg)))
    rw [h.2.2.2.2.2.2 m z hz, e]
    by_cases hm : m = 0
    · subst hm
      have hzw : z = w := Option.some.inj (hz.symm.trans h.1)
      subst hzw
      rw [cif_p rfl, sumj_cg (g := fun _ => 0) (fun j hj => ?_), sumj_0, Nat.sub_self, Int64.add_zero]
      · unfold wys
        rw [cif_p rfl]
      · by_cases hd : dn n A z j
        · rw [cif_p hd]
        · rw [cif_n hd]
          refine wys_0 hok _ (cx_L_app zL (cx_L_1 hj)) ?_
          rw [up j hj hd]
          omega
    · have hlt : cx_l n A z < cx_l n A w := by
        have h1 := h.2.2.2.1 m z hz
        have : cx_l n A z ≠ cx_l n A w := fun e => hm (h.2.1 m 0 z w hz h.1 (h1.2 e))
        omega
      obtain ⟨k, hk⟩ : ∃ k, cx_l n A w - cx_l n A z = k + 1 := ⟨cx_l n A w - cx_l n A z - 1, by omega⟩
      rw [cif_n hm, Int64.zero_add, hk]
      show _ = sumj n (fun j => cif (dn n A z j) 0 (wys n A w k (z ++ [j])))
      refine sumj_cg (fun j hj => ?_)
      by_cases hd : dn n A z j
      · rw [cif_p hd, cif_p hd]
      · rw [cif_n hd, cif_n hd, up j hj hd, show cx_l n A w - (cx_l n A z + 1) = k by omega]
theorem qfn_e (hok : cx_ok n A) {w : List Nat} {ws : List (List Nat)} {c : Nat → Int64} (h : qfn n A w ws c) : 1 ≤ ws.length ∧ c (ws.length - 1) = wys n A w (cx_l n A w) [] := by
  have h1 : 0 < ws.length := (List.getElem?_eq_some_iff.mp h.1).1
  refine ⟨h1, ?_⟩
  have hz := gd_ex (ws := ws) (i := ws.length - 1) (by omega)
  generalize ws.getD (ws.length - 1) [] = z at hz
  have zL := h.2.2.1 _ z hz
  have zl : cx_l n A z = 0 := by
    apply Classical.byContradiction
    intro hne
    obtain ⟨j, hj, hd⟩ := cx_ex_dn hok zL hne
    obtain ⟨m, v, hm, hv⟩ := h.2.2.2.2.2.1 _ j z hz hj hd
    have := h.2.2.2.2.1 m (ws.length - 1) v z hm hz (by have := (List.getElem?_eq_some_iff.mp hm).1; omega)
    rw [cx_l_eq hv] at this
    exact absurd hd (Nat.not_lt.mpr this)
  rw [qfn_c hok h _ z hz, zl, Nat.sub_zero]
  exact wys_cg _ (cx_l_0 zL zl)
end S
