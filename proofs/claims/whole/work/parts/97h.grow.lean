/-! The class: the list of all elements, length by length. -/
def gqI (n : Nat) (A : Nat → Nat → Int) (K : Nat) (W : List (List Nat)) (x t : Nat) : Prop := W[0]? = some [] ∧ lds n A W ∧ (∀ (i : Nat) (u : List Nat), W[i]? = some u → cx_L n u ∧ cx_l n A u ≤ K) ∧ (∀ (i j : Nat) (u v : List Nat), W[i]? = some u → W[j]? = some v → i ≤ j → cx_l n A u ≤ cx_l n A v) ∧ (∀ (m : Nat) (u v : List Nat), W[m]? = some u → W[x]? = some v → cx_l n A u ≤ cx_l n A v + 1) ∧ (∀ (m : Nat) (u : List Nat), W[m]? = some u → 0 < m → ∃ (i j : Nat) (v : List Nat), W[i]? = some v ∧ j < n ∧ (i < x ∨ i = x ∧ j < t) ∧ cx_g n A u = cx_g n A (v ++ [j]) ∧ ldn n A u j) ∧ ∀ (i j : Nat) (v : List Nat), W[i]? = some v → j < n → i < x ∨ i = x ∧ j < t → cx_l n A v < K → ¬ dn n A v j → ldn n A (v ++ [j]) j → ∃ (m : Nat) (u : List Nat), W[m]? = some u ∧ cx_g n A u = cx_g n A (v ++ [j])
section S
variable {n K x t : Nat} {A : Nat → Nat → Int} {W : List (List Nat)}
theorem gqI_1 : gqI n A K [[]] 0 0 := by
  have one : ∀ (m : Nat) (u : List Nat), [([] : List Nat)][m]? = some u → m = 0 ∧ u = [] := by
    intro m u h
    cases m with
    | zero => exact ⟨rfl, (Option.some.inj h).symm⟩
    | succ m => simp at h
  refine ⟨rfl, lds_1 [], fun i u h => ?_, fun i j u v h1 h2 _ => ?_, fun m u v h1 h2 => ?_, fun m u h h0 => ?_, fun i j v _ _ h => by omega⟩
  · rw [(one i u h).2, cx_l_nil]
    exact ⟨cx_L_nil, Nat.zero_le _⟩
  · rw [(one i u h1).2, (one j v h2).2]
    exact Nat.le_refl _
  · rw [(one m u h1).2, cx_l_nil]
    exact Nat.zero_le _
  · have := (one m u h).1
    omega
/-- a letter that brings nothing -/
theorem gqI_n {v : List Nat} (h : gqI n A K W x t) (hv : W[x]? = some v) (hd : dn n A v t ∨ ¬ ldn n A (v ++ [t]) t) : gqI n A K W x (t + 1) := by
  obtain ⟨h1, h2, h3, h4, h5, h6, h7⟩ := h
  refine ⟨h1, h2, h3, h4, h5, fun m u hu h0 => ?_, fun i j w a1 a2 a3 a4 a5 a6 => ?_⟩
  · obtain ⟨i, j, w, b1, b2, b3, b4⟩ := h6 m u hu h0
    exact ⟨i, j, w, b1, b2, by omega, b4⟩
  · by_cases hj : i = x ∧ j = t
    · obtain ⟨rfl, rfl⟩ := hj
      rw [hv] at a1
      cases a1
      rcases hd with hd | hd
      · exact absurd hd a5
      · exact absurd a6 hd
    · exact h7 i j w a1 a2 (by omega) a4 a5 a6
/-- what is new -/
theorem gqI_w (hok : cx_ok n A) {v : List Nat} (h : gqI n A K W x t) (hv : W[x]? = some v) (ht : t < n) (hl : ldn n A (v ++ [t]) t) : ∀ (m : Nat) (u : List Nat), W[m]? = some u → cx_g n A u ≠ cx_g n A (v ++ [t]) := by
  obtain ⟨h1, h2, h3, h4, h5, h6, h7⟩ := h
  intro m u hu hg
  by_cases h0 : 0 < m
  · obtain ⟨i, j, w, b1, b2, b3, b4, b5⟩ := h6 m u hu h0
    have hjt : j = t := ldn_un (ldn_g hg b5) hl
    subst hjt
    have hg2 : cx_g n A (w ++ [j]) = cx_g n A (v ++ [j]) := b4.symm.trans hg
    have hg3 : cx_g n A w = cx_g n A v := by
      have e := cx_g_ap1 [j] hg2
      rw [cx_g_sr hok b2 w, cx_g_sr hok b2 v] at e
      exact e
    have hix := h2 i x w v b1 hv hg3
    omega
  · have hm : m = 0 := by omega
    subst hm
    rw [h1] at hu
    cases hu
    have e1 := hl.1
    have vL := (h3 x v hv).1
    have e2 := dn_1 hok (cx_L_app vL (cx_L_1 ht)) ht e1
    rw [← cx_l_eq hg, cx_l_nil] at e2
    omega
theorem gqI_a (hok : cx_ok n A) {v : List Nat} (h : gqI n A K W x t) (hv : W[x]? = some v) (ht : t < n) (hd : ¬ dn n A v t) (hl : ldn n A (v ++ [t]) t) (hK : cx_l n A v < K) : gqI n A K (W ++ [v ++ [t]]) x (t + 1) := by
  have hnew := gqI_w hok h hv ht hl
  obtain ⟨h1, h2, h3, h4, h5, h6, h7⟩ := h
  have hx := (List.getElem?_eq_some_iff.mp hv).1
  have vL := (h3 x v hv).1
  have vl := up_1 hok vL ht hd
  have wx : (W ++ [v ++ [t]])[x]? = some v := ap_l hv
  refine ⟨ap_l h1, lds_app h2 (lds_1 _) (fun i j u w hu hw => ?_), fun i u hu => ?_, fun i j u w hu hw hij => ?_, fun m u w hu hw => ?_, fun m u hu h0 => ?_, fun i j w a1 a2 a3 a4 a5 a6 => ?_⟩
  · rw [List.mem_singleton.mp (List.mem_of_getElem? hw)]
    exact hnew i u hu
  · rcases ap_c hu with hu | ⟨_, rfl⟩
    · exact h3 i u hu
    · exact ⟨cx_L_app vL (cx_L_1 ht), by omega⟩
  · rcases ap_c hu with hu | ⟨ha, rfl⟩
    · rcases ap_c hw with hw | ⟨_, rfl⟩
      · exact h4 i j u w hu hw hij
      · have := h5 i u v hu hv
        omega
    · rcases ap_c hw with hw | ⟨_, rfl⟩
      · have := (List.getElem?_eq_some_iff.mp hw).1
        omega
      · exact Nat.le_refl _
  · rw [wx] at hw
    cases hw
    rcases ap_c hu with hu | ⟨_, rfl⟩
    · exact h5 m u v hu hv
    · omega
  · rcases ap_c hu with hu | ⟨_, rfl⟩
    · obtain ⟨i, j, w, b1, b2, b3, b4⟩ := h6 m u hu h0
      exact ⟨i, j, w, ap_l b1, b2, by omega, b4⟩
    · exact ⟨x, t, v, wx, ht, Or.inr ⟨rfl, by omega⟩, rfl, hl⟩
  · rcases ap_c a1 with a7 | ⟨ha, rfl⟩
    · by_cases hj : i = x ∧ j = t
      · obtain ⟨rfl, rfl⟩ := hj
        rw [hv] at a7
        cases a7
        exact ⟨W.length, _, ap_r, rfl⟩
      · obtain ⟨m, u, b1, b2⟩ := h7 i j w a7 a2 (by omega) a4 a5 a6
        exact ⟨m, u, ap_l b1, b2⟩
    · omega
theorem gqI_i (h : gqI n A K W x n) (hx : x < W.length) : gqI n A K W (x + 1) 0 := by
  obtain ⟨h1, h2, h3, h4, h5, h6, h7⟩ := h
  refine ⟨h1, h2, h3, h4, fun m u v hu hv => ?_, fun m u hu h0 => ?_, fun i j w a1 a2 a3 a4 a5 a6 => h7 i j w a1 a2 (by omega) a4 a5 a6⟩
  · have a := h5 m u _ hu (gd_ex hx)
    have b := h4 x (x + 1) _ v (gd_ex hx) hv (by omega)
    omega
  · obtain ⟨i, j, w, b1, b2, b3, b4⟩ := h6 m u hu h0
    exact ⟨i, j, w, b1, b2, by omega, b4⟩
/-- one of the greatest length brings nothing -/
theorem gqI_k {v : List Nat} (h : gqI n A K W x 0) (hv : W[x]? = some v) (hK : K ≤ cx_l n A v) : gqI n A K W (x + 1) 0 := by
  have hx := (List.getElem?_eq_some_iff.mp hv).1
  refine gqI_i ?_ hx
  obtain ⟨h1, h2, h3, h4, h5, h6, h7⟩ := h
  refine ⟨h1, h2, h3, h4, h5, fun m u hu h0 => ?_, fun i j w a1 a2 a3 a4 a5 a6 => ?_⟩
  · obtain ⟨i, j, w, b1, b2, b3, b4⟩ := h6 m u hu h0
    exact ⟨i, j, w, b1, b2, by omega, b4⟩
  · by_cases hi : i = x
    · subst hi
      rw [hv] at a1
      cases a1
      omega
    · exact h7 i j w a1 a2 (by omega) a4 a5 a6
/-- all up to a length are there -/
theorem gqI_c (hok : cx_ok n A) (h : gqI n A K W x t) {R : Nat} (hR : R ≤ K) (hx : ∀ (i : Nat) (u : List Nat), W[i]? = some u → cx_l n A u < R → i < x) : ∀ (k : Nat) (z : List Nat), cx_L n z → cx_l n A z = k → k ≤ R → ∃ (i : Nat) (u : List Nat), W[i]? = some u ∧ cx_g n A u = cx_g n A z := by
  obtain ⟨h1, h2, h3, h4, h5, h6, h7⟩ := h
  intro k
  induction k with
  | zero => exact fun z hz hl _ => ⟨0, [], h1, (cx_l_0 hz hl).symm⟩
  | succ k ih =>
    intro z hz hl hk
    obtain ⟨j, hj, hd⟩ := ldn_ex (cx_ex_dn hok hz (by omega))
    have zj := cx_L_app hz (cx_L_1 hj)
    have e1 := dn_1 hok hz hj hd.1
    obtain ⟨i, u, hu, hg⟩ := ih (z ++ [j]) zj (by omega) (by omega)
    have hl' : cx_l n A u = k := (cx_l_eq hg).trans (by omega)
    have g2 : cx_g n A (u ++ [j]) = cx_g n A z := by
      rw [cx_g_ap1 [j] hg]
      exact cx_g_sr hok hj z
    have nd : ¬ dn n A u j := fun hh => by
      have := (dn_g hg j).mp hh
      exact (dn_dn hok hz hj).mp this hd.1
    obtain ⟨m, w, hw, hgw⟩ := h7 i j u hu hj (Or.inl (hx i u hu (by omega))) (by omega) nd (ldn_g g2.symm hd)
    exact ⟨m, w, hw, hgw.trans g2⟩
/-- all were gone through -/
theorem gqI_z (hok : cx_ok n A) (h : gqI n A K W W.length 0) : lvp n A (fun m => m ≤ K) W := by
  refine ⟨h.2.1, h.2.2.1, fun z hz hk => gqI_c hok h (Nat.le_refl K) (fun i u hu _ => (List.getElem?_eq_some_iff.mp hu).1) _ z hz rfl hk⟩
/-- up to the length of the one that is gone through -/
theorem gqI_x (hok : cx_ok n A) {v : List Nat} (h : gqI n A K W x t) (hv : W[x]? = some v) : ∀ z, cx_L n z → cx_l n A z ≤ cx_l n A v → ∃ (i : Nat) (u : List Nat), W[i]? = some u ∧ cx_g n A u = cx_g n A z := by
  intro z hz hk
  refine gqI_c hok h (h.2.2.1 x v hv).2 (fun i u hu hlt => ?_) _ z hz rfl hk
  apply Classical.byContradiction
  intro hi
  have := h.2.2.2.1 x i v u hv hu (by omega)
  omega
/-- what is found when there are too many: the least length from which on they are -/
def gov (n : Nat) (A : Nat → Nat → Int) (K R : Nat) : Prop := R ≤ K ∧ 2000 < glS n A R ∧ 1 ≤ R ∧ glS n A (R - 1) ≤ 2000
theorem gov_un {K K' R R' : Nat} (h : gov n A K R) (h' : gov n A K' R') : R = R' := by
  obtain ⟨a1, a2, a3, a4⟩ := h
  obtain ⟨b1, b2, b3, b4⟩ := h'
  rcases Nat.lt_trichotomy R R' with hlt | hlt | hlt
  · have := glS_mo (n := n) (A := A) (show R ≤ R' - 1 by omega)
    omega
  · exact hlt
  · have := glS_mo (n := n) (A := A) (show R' ≤ R - 1 by omega)
    omega
end S
