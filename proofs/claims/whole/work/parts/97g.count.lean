/-! How many elements have a length; the list of all of them, as the class makes it. -/
/-- unlike elements -/
def lds (n : Nat) (A : Nat → Nat → Int) (L : List (List Nat)) : Prop := ∀ (i j : Nat) (u v : List Nat), L[i]? = some u → L[j]? = some v → cx_g n A u = cx_g n A v → i = j
/-- all elements of whose lengths p holds, each once -/
def lvp (n : Nat) (A : Nat → Nat → Int) (p : Nat → Prop) (L : List (List Nat)) : Prop := lds n A L ∧ (∀ (i : Nat) (u : List Nat), L[i]? = some u → cx_L n u ∧ p (cx_l n A u)) ∧ ∀ z, cx_L n z → p (cx_l n A z) → ∃ (i : Nat) (u : List Nat), L[i]? = some u ∧ cx_g n A u = cx_g n A z
def awd (n : Nat) : Nat → List (List Nat)
  | 0 => [[]]
  | k + 1 => [] :: (awd n k).flatMap (fun u => (List.range n).map (fun s => s :: u))
theorem awd_in (n : Nat) : ∀ (k : Nat) (u : List Nat), cx_L n u → u.length ≤ k → u ∈ awd n k := by
  intro k
  induction k with
  | zero =>
    intro u _ h
    rw [List.length_eq_zero_iff.mp (Nat.le_zero.mp h)]
    exact List.mem_singleton.mpr rfl
  | succ k ih =>
    intro u hu h
    cases u with
    | nil => exact List.mem_cons_self
    | cons s u =>
      refine List.mem_cons_of_mem _ (List.mem_flatMap.mpr ⟨u, ih u (cx_L_tl hu) (by simpa using h), List.mem_map.mpr ⟨s, List.mem_range.mpr (cx_L_hd hu), rfl⟩⟩)
theorem apl_c {L1 L2 : List (List Nat)} {m : Nat} {v : List Nat} (h : (L1 ++ L2)[m]? = some v) : (m < L1.length ∧ L1[m]? = some v) ∨ ∃ j, m = L1.length + j ∧ L2[j]? = some v := by
  by_cases hm : m < L1.length
  · rw [List.getElem?_append_left hm] at h
    exact Or.inl ⟨hm, h⟩
  · rw [List.getElem?_append_right (by omega)] at h
    exact Or.inr ⟨m - L1.length, by omega, h⟩
theorem apl_l {L1 L2 : List (List Nat)} {m : Nat} {v : List Nat} (h : L1[m]? = some v) : (L1 ++ L2)[m]? = some v := by
  rw [List.getElem?_append_left (List.getElem?_eq_some_iff.mp h).1]
  exact h
theorem apl_r {L1 L2 : List (List Nat)} {j : Nat} {v : List Nat} (h : L2[j]? = some v) : (L1 ++ L2)[L1.length + j]? = some v := by
  rw [List.getElem?_append_right (by omega), show L1.length + j - L1.length = j by omega]
  exact h
section S
variable {n : Nat} {A : Nat → Nat → Int} {p q : Nat → Prop} {L L' W : List (List Nat)}
theorem lds_app (h1 : lds n A L) (h2 : lds n A L') (h : ∀ (i j : Nat) (u v : List Nat), L[i]? = some u → L'[j]? = some v → cx_g n A u ≠ cx_g n A v) : lds n A (L ++ L') := by
  intro i j u v hu hv hg
  rcases apl_c hu with ⟨_, hu1⟩ | ⟨i', ei, hu1⟩
  · rcases apl_c hv with ⟨_, hv1⟩ | ⟨j', ej, hv1⟩
    · exact h1 i j u v hu1 hv1 hg
    · exact absurd hg (h i j' u v hu1 hv1)
  · rcases apl_c hv with ⟨_, hv1⟩ | ⟨j', ej, hv1⟩
    · exact absurd hg.symm (h j i' v u hv1 hu1)
    · rw [ei, ej, h2 i' j' u v hu1 hv1 hg]
theorem lds_1 (v : List Nat) : lds n A [v] := by
  intro i j a b ha hb _
  have h1 := (List.getElem?_eq_some_iff.mp ha).1
  have h2 := (List.getElem?_eq_some_iff.mp hb).1
  simp at h1 h2
  omega
theorem lvp_le (hd : lds n A L') (h' : ∀ (i : Nat) (u : List Nat), L'[i]? = some u → cx_L n u ∧ p (cx_l n A u)) (h : lvp n A p L) : L'.length ≤ L.length := by
  refine pgl hd (fun i u hu => ?_)
  obtain ⟨j, v, hv, hg⟩ := h.2.2 u (h' i u hu).1 (h' i u hu).2
  exact ⟨v, List.mem_of_getElem? hv, hg⟩
theorem lvp_eq (h : lvp n A p L) (h' : lvp n A p L') : L.length = L'.length := Nat.le_antisymm (lvp_le h.1 h.2.1 h') (lvp_le h'.1 h'.2.1 h)
theorem ddp (Q : List Nat → Prop) : ∀ C : List (List Nat), ∃ L, lds n A L ∧ (∀ (i : Nat) (u : List Nat), L[i]? = some u → u ∈ C ∧ Q u) ∧ ∀ z, z ∈ C → Q z → ∃ (i : Nat) (u : List Nat), L[i]? = some u ∧ cx_g n A u = cx_g n A z := by
  intro C
  induction C with
  | nil => exact ⟨[], fun i j u v h => by simp at h, fun i u h => by simp at h, fun z h => by simp at h⟩
  | cons c C ih =>
    obtain ⟨L, h1, h2, h3⟩ := ih
    by_cases hc : Q c ∧ ∀ (i : Nat) (u : List Nat), L[i]? = some u → cx_g n A u ≠ cx_g n A c
    · refine ⟨L ++ [c], lds_app h1 (lds_1 c) (fun i j u v hu hv => ?_), fun i u hu => ?_, fun z hz hq => ?_⟩
      · have := List.mem_of_getElem? hv
        rw [List.mem_singleton.mp this]
        exact hc.2 i u hu
      · rcases apl_c hu with ⟨_, hu⟩ | ⟨j, _, hu⟩
        · exact ⟨List.mem_cons_of_mem _ (h2 i u hu).1, (h2 i u hu).2⟩
        · have := List.mem_of_getElem? hu
          rw [List.mem_singleton.mp this]
          exact ⟨List.mem_cons_self, hc.1⟩
      · rcases List.mem_cons.mp hz with rfl | hz
        · exact ⟨L.length, z, ap_r, rfl⟩
        · obtain ⟨i, u, hu, hg⟩ := h3 z hz hq
          exact ⟨i, u, apl_l hu, hg⟩
    · refine ⟨L, h1, fun i u hu => ⟨List.mem_cons_of_mem _ (h2 i u hu).1, (h2 i u hu).2⟩, fun z hz hq => ?_⟩
      rcases List.mem_cons.mp hz with rfl | hz
      · apply Classical.byContradiction
        intro hno
        exact hc ⟨hq, fun i u hu hg => hno ⟨i, u, hu, hg⟩⟩
      · exact h3 z hz hq
theorem lvp_ex {k : Nat} (hp : ∀ m, p m → m ≤ k) : ∃ L, lvp n A p L := by
  obtain ⟨L, h1, h2, h3⟩ := ddp (n := n) (A := A) (fun u => cx_L n u ∧ p (cx_l n A u)) (awd n k)
  refine ⟨L, h1, fun i u hu => (h2 i u hu).2, fun z hz hpz => ?_⟩
  obtain ⟨y, hy, hl, hg⟩ := cx_l_w (A := A) hz
  have hly : cx_l n A y = cx_l n A z := cx_l_eq hg
  obtain ⟨i, u, hu, hg'⟩ := h3 y (awd_in n k y hy (by rw [hl]; exact hp _ hpz)) ⟨hy, by rw [hly]; exact hpz⟩
  exact ⟨i, u, hu, hg'.trans hg⟩
noncomputable def lvn (n : Nat) (A : Nat → Nat → Int) (p : Nat → Prop) : Nat := Classical.epsilon (fun m => ∃ L, lvp n A p L ∧ L.length = m)
theorem lvn_e (h : lvp n A p L) : L.length = lvn n A p := by
  obtain ⟨L', h', e⟩ := Classical.epsilon_spec (p := fun m => ∃ L, lvp n A p L ∧ L.length = m) ⟨L.length, L, h, rfl⟩
  exact (lvp_eq h h').trans e
/-- elements of length k; of length k at most -/
noncomputable def glN (n : Nat) (A : Nat → Nat → Int) (k : Nat) : Nat := lvn n A (fun m => m = k)
noncomputable def glS (n : Nat) (A : Nat → Nat → Int) (k : Nat) : Nat := lvn n A (fun m => m ≤ k)
theorem lvp_0 (hp0 : p 0) (hp : ∀ m, p m → m = 0) : lvp n A p [[]] := by
  refine ⟨lds_1 [], fun i u hu => ?_, fun z hz hpz => ⟨0, [], rfl, (cx_l_0 hz (hp _ hpz)).symm⟩⟩
  rw [List.mem_singleton.mp (List.mem_of_getElem? hu), cx_l_nil]
  exact ⟨cx_L_nil, hp0⟩
theorem glN_0 : glN n A 0 = 1 := (lvn_e (lvp_0 (p := fun m => m = 0) rfl (fun _ h => h))).symm
theorem glS_0 : glS n A 0 = 1 := (lvn_e (lvp_0 (p := fun m => m ≤ 0) (Nat.le_refl 0) (fun _ h => Nat.le_zero.mp h))).symm
theorem lvp_app {k : Nat} (h1 : lvp n A (fun m => m ≤ k) L) (h2 : lvp n A (fun m => m = k + 1) L') : lvp n A (fun m => m ≤ k + 1) (L ++ L') := by
  refine ⟨lds_app h1.1 h2.1 (fun i j u v hu hv hg => ?_), fun i u hu => ?_, fun z hz hpz => ?_⟩
  · have a := (h1.2.1 i u hu).2
    have b := (h2.2.1 j v hv).2
    rw [cx_l_eq hg] at a
    omega
  · rcases apl_c hu with ⟨_, hu⟩ | ⟨j, _, hu⟩
    · exact ⟨(h1.2.1 i u hu).1, by have := (h1.2.1 i u hu).2; omega⟩
    · exact ⟨(h2.2.1 j u hu).1, by have := (h2.2.1 j u hu).2; omega⟩
  · by_cases hk : cx_l n A z ≤ k
    · obtain ⟨i, u, hu, hg⟩ := h1.2.2 z hz hk
      exact ⟨i, u, apl_l hu, hg⟩
    · obtain ⟨i, u, hu, hg⟩ := h2.2.2 z hz (by show cx_l n A z = k + 1; omega)
      exact ⟨_, u, apl_r hu, hg⟩
theorem glN_ex (n : Nat) (A : Nat → Nat → Int) (k : Nat) : ∃ L, lvp n A (fun m => m = k) L ∧ L.length = glN n A k := by
  obtain ⟨L, h⟩ := lvp_ex (n := n) (A := A) (p := fun m => m = k) (k := k) (fun m h => Nat.le_of_eq h)
  exact ⟨L, h, lvn_e h⟩
theorem glS_ex (n : Nat) (A : Nat → Nat → Int) (k : Nat) : ∃ L, lvp n A (fun m => m ≤ k) L ∧ L.length = glS n A k := by
  obtain ⟨L, h⟩ := lvp_ex (n := n) (A := A) (p := fun m => m ≤ k) (k := k) (fun m h => h)
  exact ⟨L, h, lvn_e h⟩
theorem glS_s (k : Nat) : glS n A (k + 1) = glS n A k + glN n A (k + 1) := by
  obtain ⟨L, h, e⟩ := glS_ex n A k
  obtain ⟨L', h', e'⟩ := glN_ex n A (k + 1)
  rw [← e, ← e', ← List.length_append]
  exact (lvn_e (lvp_app h h')).symm
theorem glN_z (hok : cx_ok n A) {k : Nat} (h : glN n A k = 0) : glN n A (k + 1) = 0 := by
  obtain ⟨L, h1, e1⟩ := glN_ex n A k
  obtain ⟨L', h2, e2⟩ := glN_ex n A (k + 1)
  apply Classical.byContradiction
  intro hne
  have h0 : 0 < L'.length := by omega
  obtain ⟨uL, ul⟩ := h2.2.1 0 _ (gd_ex h0)
  have ul : cx_l n A (L'.getD 0 []) = k + 1 := ul
  obtain ⟨t, ht, hd⟩ := cx_ex_dn hok uL (by omega)
  obtain ⟨i, u, hu, _⟩ := h1.2.2 _ (cx_L_app uL (cx_L_1 ht)) (by
    have := dn_1 hok uL ht hd
    show cx_l n A (L'.getD 0 [] ++ [t]) = k
    omega)
  have := (List.getElem?_eq_some_iff.mp hu).1
  omega
theorem glN_zz (hok : cx_ok n A) {k : Nat} (h : glN n A k = 0) (m : Nat) (hm : k ≤ m) : glN n A m = 0 := by
  induction m with
  | zero =>
    have : k = 0 := by omega
    rw [this] at h
    exact h
  | succ m ih =>
    by_cases hk : k = m + 1
    · rw [← hk]; exact h
    · exact glN_z hok (ih (by omega))
theorem glS_mo {k m : Nat} (h : k ≤ m) : glS n A k ≤ glS n A m := by
  induction m with
  | zero =>
    have : k = 0 := by omega
    rw [this]
    exact Nat.le_refl _
  | succ m ih =>
    by_cases hk : k = m + 1
    · rw [hk]; exact Nat.le_refl _
    · rw [glS_s]
      have := ih (by omega)
      omega
theorem glS_st (hok : cx_ok n A) {k : Nat} (h : glN n A k = 0) (m : Nat) (hm : k ≤ m) : glS n A m = glS n A k := by
  induction m with
  | zero =>
    have : k = 0 := by omega
    rw [this]
  | succ m ih =>
    by_cases hk : k = m + 1
    · rw [hk]
    · rw [glS_s, ih (by omega), glN_zz hok h (m + 1) (by omega), Nat.add_zero]
theorem lds_pw : lds n A L ↔ L.Pairwise (fun u v => cx_g n A u ≠ cx_g n A v) := by
  rw [List.pairwise_iff_getElem]
  constructor
  · intro h i j hi hj hij hg
    have := h i j _ _ (List.getElem?_eq_getElem hi) (List.getElem?_eq_getElem hj) hg
    omega
  · intro h i j u v hu hv hg
    obtain ⟨hi, rfl⟩ := List.getElem?_eq_some_iff.mp hu
    obtain ⟨hj, rfl⟩ := List.getElem?_eq_some_iff.mp hv
    rcases Nat.lt_trichotomy i j with hij | hij | hij
    · exact absurd hg (h i j hi hj hij)
    · exact hij
    · exact absurd hg.symm (h j i hj hi hij)
/-- how many of a list have length k -/
noncomputable def cnt (n : Nat) (A : Nat → Nat → Int) (k : Nat) (W : List (List Nat)) : Nat := (W.filter (fun u => decide (cx_l n A u = k))).length
theorem cnt_ap (k : Nat) (v : List Nat) : cnt n A k (W ++ [v]) = cnt n A k W + if cx_l n A v = k then 1 else 0 := by
  unfold cnt
  rw [List.filter_append, List.length_append]
  by_cases h : cx_l n A v = k
  · rw [if_pos h, List.filter_cons_of_pos (by exact decide_eq_true h)]
    rfl
  · rw [if_neg h, List.filter_cons_of_neg (by simpa using h)]
    rfl
theorem cnt_le (k : Nat) : cnt n A k W ≤ W.length := List.length_filter_le _ _
theorem cnt_N {k : Nat} (hd : lds n A W) (hL : ∀ (i : Nat) (u : List Nat), W[i]? = some u → cx_L n u) (hc : ∀ z, cx_L n z → cx_l n A z = k → ∃ (i : Nat) (u : List Nat), W[i]? = some u ∧ cx_g n A u = cx_g n A z) : cnt n A k W = glN n A k := by
  refine lvn_e ⟨lds_pw.mpr ((lds_pw.mp hd).filter _), fun i u hu => ?_, fun z hz hk => ?_⟩
  · obtain ⟨h1, h2⟩ := List.mem_filter.mp (List.mem_of_getElem? hu)
    obtain ⟨j, hj⟩ := List.mem_iff_getElem?.mp h1
    exact ⟨hL j u hj, of_decide_eq_true h2⟩
  · obtain ⟨i, u, hu, hg⟩ := hc z hz hk
    have hm : u ∈ W.filter (fun u => decide (cx_l n A u = k)) := List.mem_filter.mpr ⟨List.mem_of_getElem? hu, decide_eq_true ((cx_l_eq hg).trans hk)⟩
    obtain ⟨j, hj⟩ := List.mem_iff_getElem?.mp hm
    exact ⟨j, u, hj, hg⟩
/-- the least letter down -/
def ldn (n : Nat) (A : Nat → Nat → Int) (u : List Nat) (t : Nat) : Prop := dn n A u t ∧ ∀ j, j < t → ¬ dn n A u j
theorem ldn_g {u v : List Nat} {t : Nat} (h : cx_g n A u = cx_g n A v) (hl : ldn n A u t) : ldn n A v t := ⟨(dn_g h t).mp hl.1, fun j hj hd => hl.2 j hj ((dn_g h j).mpr hd)⟩
theorem ldn_un {u : List Nat} {t t' : Nat} (h : ldn n A u t) (h' : ldn n A u t') : t = t' := by
  rcases Nat.lt_trichotomy t t' with hlt | hlt | hlt
  · exact absurd h.1 (h'.2 t hlt)
  · exact hlt
  · exact absurd h'.1 (h.2 t' hlt)
theorem ldn_ex {u : List Nat} (h : ∃ t, t < n ∧ dn n A u t) : ∃ t, t < n ∧ ldn n A u t := by
  obtain ⟨t, ⟨h1, h2⟩, h3⟩ := cx_min_ex (P := fun t => t < n ∧ dn n A u t) h
  exact ⟨t, h1, h2, fun j hj hd => by have := h3 j ⟨by omega, hd⟩; omega⟩
end S
