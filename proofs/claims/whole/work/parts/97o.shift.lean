/-! Shifts: what is come to; weights of x, s by images. -/
section S
variable {n : Nat} {A : Nat → Nat → Int}
/-- the pairing of rows -/
def cx_pg (n : Nat) (A : Nat → Nat → Int) (y z : Nat → Int) : Int := cx_sum n (fun i => y i * cx_sum n (fun k => A i k * z k))
theorem cx_pg_a {t : Nat} (ht : t < n) (y z : Nat → Int) : cx_pg n A (cx_a n (cx_t A) t y) z = cx_pg n A y (cx_a n A t z) := by
  unfold cx_pg
  have e1 : cx_sum n (fun i => cx_a n (cx_t A) t y i * cx_sum n (fun k => A i k * z k)) = cx_sum n (fun i => y i * cx_sum n (fun k => A i k * z k)) + (-(cx_sum n (fun j => A j t * y j))) * cx_sum n (fun k => A t k * z k) := by
    have := cx_sum_e n (fun i => cx_sum n (fun k => A i k * z k)) t
    rw [if_pos ht] at this
    rw [← this, ← cx_sum_lin]
    refine cx_sum_eq (fun i hi => ?_)
    rw [cx_a_e]
    show (y i + (-(cx_sum n (fun j => cx_t A t j * y j))) * cx_e t i) * _ = _
    rw [show cx_sum n (fun j => cx_t A t j * y j) = cx_sum n (fun j => A j t * y j) from rfl]
    rw [Int.add_mul, Int.mul_assoc, Int.mul_comm (cx_e t i)]
  have e2 : cx_sum n (fun i => y i * cx_sum n (fun k => A i k * cx_a n A t z k)) = cx_sum n (fun i => y i * cx_sum n (fun k => A i k * z k)) + (-(cx_sum n (fun k => A t k * z k))) * cx_sum n (fun j => A j t * y j) := by
    rw [← cx_sum_lin]
    refine cx_sum_eq (fun i hi => ?_)
    have e3 : cx_sum n (fun k => A i k * cx_a n A t z k) = cx_sum n (fun k => A i k * z k) + (-(cx_sum n (fun k => A t k * z k))) * A i t := by
      have := cx_sum_e n (fun k => A i k) t
      rw [if_pos ht] at this
      rw [← this, ← cx_sum_lin]
      refine cx_sum_eq (fun k hk => ?_)
      rw [cx_a_e]
      show A i k * (z k + (-(cx_sum n (fun j => A t j * z j))) * cx_e t k) = _
      rw [Int.mul_add, Int.mul_left_comm]
    rw [e3, Int.mul_add, Int.mul_left_comm, Int.mul_comm (y i) (A i t)]
  rw [e1, e2]
  congr 1
  rw [Int.neg_mul, Int.neg_mul, Int.mul_comm]
theorem cx_pg_x : ∀ {v : List Nat}, cx_L n v → ∀ (y z : Nat → Int), cx_pg n A (cx_x n (cx_t A) v y) z = cx_pg n A y (cx_x n A v.reverse z) := by
  intro v
  induction v with
  | nil => exact fun _ y z => rfl
  | cons t v ih =>
    intro hv y z
    rw [List.reverse_cons, cx_x_app]
    show cx_pg n A (cx_a n (cx_t A) t (cx_x n (cx_t A) v y)) z = cx_pg n A y (cx_x n A v.reverse (cx_a n A t z))
    rw [cx_pg_a (cx_L_hd hv), ih (cx_L_tl hv)]
theorem cx_h_cons {v : List Nat} {t j : Nat} (hv : cx_L n v) (ht : t < n) (hj : j < n) : cx_h n A (t :: v) j = cx_h n A v j - cx_sum n (fun k => A j k * cx_x n A v.reverse (cx_e t) k) := by
  have e1 : cx_sum n (fun i => A i t * cx_x n (cx_t A) v (cx_e j) i) = cx_sum n (fun k => A j k * cx_x n A v.reverse (cx_e t) k) := by
    have e2 := cx_pg_x (A := A) hv (cx_e j) (cx_e t)
    unfold cx_pg at e2
    have e3 : cx_sum n (fun i => cx_x n (cx_t A) v (cx_e j) i * cx_sum n (fun k => A i k * cx_e t k)) = cx_sum n (fun i => A i t * cx_x n (cx_t A) v (cx_e j) i) := by
      refine cx_sum_eq (fun i hi => ?_)
      rw [cx_sum_e, if_pos ht, Int.mul_comm]
    have e4 : cx_sum n (fun i => cx_e j i * cx_sum n (fun k => A i k * cx_x n A v.reverse (cx_e t) k)) = cx_sum n (fun k => A j k * cx_x n A v.reverse (cx_e t) k) := by
      have := cx_sum_e n (fun i => cx_sum n (fun k => A i k * cx_x n A v.reverse (cx_e t) k)) j
      rw [if_pos hj] at this
      rw [← this]
      refine cx_sum_eq (fun i hi => ?_)
      rw [Int.mul_comm]
    rw [e3, e4] at e2
    exact e2
  rw [← e1]
  unfold cx_h
  show cx_sum n (cx_a n (cx_t A) t (cx_x n (cx_t A) v (cx_e j))) = _
  rw [cx_a_e]
  have e5 := cx_sum_lin n (cx_x n (cx_t A) v (cx_e j)) (cx_e t) (-(cx_sum n (fun i => cx_t A t i * cx_x n (cx_t A) v (cx_e j) i)))
  have e6 : cx_sum n (cx_e t) = 1 := by
    have := cx_sum_e n (fun _ => 1) t
    rw [if_pos ht] at this
    rw [← this]
    exact cx_sum_eq (fun i hi => (Int.one_mul _).symm)
  rw [e6, Int.mul_one] at e5
  rw [e5]
  show _ + -(cx_sum n (fun i => A i t * cx_x n (cx_t A) v (cx_e j) i)) = _
  rw [Int.sub_eq_add_neg]
/-- what is come to from w by shifts -/
def rch (n : Nat) (A : Nat → Nat → Int) (w z : List Nat) : Prop := ∀ P : List Nat → Prop, P w → (∀ u v, cx_g n A u = cx_g n A v → cx_L n v → P u → P v) → (∀ (u : List Nat) (t : Nat), cx_L n u → t < n → P u → cx_l n A (t :: (u ++ [t])) ≤ cx_l n A u → P (t :: (u ++ [t]))) → P z
theorem rch_0 (w : List Nat) : rch n A w w := fun P h _ _ => h
theorem rch_g {w u v : List Nat} (h : rch n A w u) (hg : cx_g n A u = cx_g n A v) (hv : cx_L n v) : rch n A w v := fun P h0 h1 h2 => h1 u v hg hv (h P h0 h1 h2)
theorem rch_s {w u : List Nat} {t : Nat} (h : rch n A w u) (hu : cx_L n u) (ht : t < n) (hl : cx_l n A (t :: (u ++ [t])) ≤ cx_l n A u) : rch n A w (t :: (u ++ [t])) := fun P h0 h1 h2 => h2 u t hu ht (h P h0 h1 h2) hl
theorem rch_L {w z : List Nat} (hw : cx_L n w) (h : rch n A w z) : cx_L n z ∧ cx_l n A z ≤ cx_l n A w := by
  refine h (fun z => cx_L n z ∧ cx_l n A z ≤ cx_l n A w) ⟨hw, Nat.le_refl _⟩ (fun u v hg hv hp => ⟨hv, by rw [← cx_l_eq hg]; exact hp.2⟩) (fun u t hu ht hp hl => ⟨cx_L_cons ht (cx_L_app hu (cx_L_1 ht)), Nat.le_trans hl hp.2⟩)
/-- all elements of which P holds, each once -/
def lvq (n : Nat) (A : Nat → Nat → Int) (P : List Nat → Prop) (L : List (List Nat)) : Prop := lds n A L ∧ (∀ (i : Nat) (u : List Nat), L[i]? = some u → cx_L n u ∧ P u) ∧ ∀ z, cx_L n z → P z → ∃ (i : Nat) (u : List Nat), L[i]? = some u ∧ cx_g n A u = cx_g n A z
theorem lvq_le {P : List Nat → Prop} {L L' : List (List Nat)} (hd : lds n A L') (h' : ∀ (i : Nat) (u : List Nat), L'[i]? = some u → cx_L n u ∧ P u) (h : lvq n A P L) : L'.length ≤ L.length := by
  refine pgl hd (fun i u hu => ?_)
  obtain ⟨j, v, hv, hg⟩ := h.2.2 u (h' i u hu).1 (h' i u hu).2
  exact ⟨v, List.mem_of_getElem? hv, hg⟩
theorem lvq_eq {P : List Nat → Prop} {L L' : List (List Nat)} (h : lvq n A P L) (h' : lvq n A P L') : L.length = L'.length := Nat.le_antisymm (lvq_le h.1 h.2.1 h') (lvq_le h'.1 h'.2.1 h)
theorem lvq_f {P : List Nat → Prop} {L : List (List Nat)} (h : lvq n A P L) (k : Nat) : lvq n A (fun u => P u ∧ cx_l n A u = k) (L.filter (fun u => decide (cx_l n A u = k))) := by
  refine ⟨lds_pw.mpr ((lds_pw.mp h.1).filter _), fun i u hu => ?_, fun z hz hk => ?_⟩
  · obtain ⟨h1, h2⟩ := List.mem_filter.mp (List.mem_of_getElem? hu)
    obtain ⟨j, hj⟩ := List.mem_iff_getElem?.mp h1
    exact ⟨(h.2.1 j u hj).1, (h.2.1 j u hj).2, of_decide_eq_true h2⟩
  · obtain ⟨i, u, hu, hg⟩ := h.2.2 z hz hk.1
    have hm : u ∈ L.filter (fun u => decide (cx_l n A u = k)) := List.mem_filter.mpr ⟨List.mem_of_getElem? hu, decide_eq_true ((cx_l_eq hg).trans hk.2)⟩
    obtain ⟨j, hj⟩ := List.mem_iff_getElem?.mp hm
    exact ⟨j, u, hj, hg⟩
theorem lvq_cnt {P : List Nat → Prop} {L L' : List (List Nat)} (h : lvq n A P L) (h' : lvq n A P L') (k : Nat) : cnt n A k L = cnt n A k L' := lvq_eq (lvq_f h k) (lvq_f h' k)
/-- the least length of a list -/
def lml (n : Nat) (A : Nat → Nat → Int) (W : List (List Nat)) (m : Nat) : Prop := (∃ (i : Nat) (u : List Nat), W[i]? = some u ∧ cx_l n A u = m) ∧ ∀ (i : Nat) (u : List Nat), W[i]? = some u → m ≤ cx_l n A u
theorem lml_un {P : List Nat → Prop} {L L' : List (List Nat)} {m m' : Nat} (h : lvq n A P L) (h' : lvq n A P L') (hm : lml n A L m) (hm' : lml n A L' m') : m = m' := by
  obtain ⟨⟨i, u, hu, e⟩, h2⟩ := hm
  obtain ⟨⟨i', u', hu', e'⟩, h2'⟩ := hm'
  obtain ⟨j, v, hv, hg⟩ := h'.2.2 u (h.2.1 i u hu).1 (h.2.1 i u hu).2
  obtain ⟨j', v', hv', hg'⟩ := h.2.2 u' (h'.2.1 i' u' hu').1 (h'.2.1 i' u' hu').2
  have a1 := h2' j v hv
  have a2 := h2 j' v' hv'
  rw [cx_l_eq hg] at a1
  rw [cx_l_eq hg'] at a2
  omega
/-- what shifts answers -/
def shV (n : Nat) (A : Nat → Nat → Int) (w : List Nat) (k : Nat) (v : Int32) : Prop := (∃ (W : List (List Nat)) (m : Nat), lvq n A (rch n A w) W ∧ W.length ≤ 300 ∧ lml n A W m ∧ v = if k = 0 then nI m else if k = 1 then nI (cnt n A m W) else nI W.length) ∨ (v = -1005 ∧ ∃ W, lds n A W ∧ (∀ (i : Nat) (u : List Nat), W[i]? = some u → cx_L n u ∧ rch n A w u) ∧ 300 < W.length)
theorem shV_un {w : List Nat} {k : Nat} {v v' : Int32} (h : shV n A w k v) (h' : shV n A w k v') : v = v' := by
  rcases h with ⟨W, m, h1, h2, h3, h4⟩ | ⟨h1, W, h2, h3, h4⟩
  · rcases h' with ⟨W', m', a1, a2, a3, a4⟩ | ⟨_, W', a2, a3, a4⟩
    · have := lml_un h1 a1 h3 a3
      subst this
      rw [h4, a4, lvq_cnt h1 a1 m, lvq_eq h1 a1]
    · have := lvq_le a2 a3 h1
      omega
  · rcases h' with ⟨W', m', a1, a2, a3, a4⟩ | ⟨a1, _⟩
    · have := lvq_le h2 h3 a1
      omega
    · rw [h1, a1]
/-- the queue of shifts -/
def shQ (n : Nat) (A : Nat → Nat → Int) (w : List Nat) (W : List (List Nat)) (x t : Nat) : Prop := W[0]? = some w ∧ lds n A W ∧ (∀ (i : Nat) (u : List Nat), W[i]? = some u → cx_L n u ∧ rch n A w u) ∧ ∀ (i j : Nat) (u : List Nat), W[i]? = some u → j < n → i < x ∨ i = x ∧ j < t → cx_l n A (j :: (u ++ [j])) ≤ cx_l n A u → ∃ (m : Nat) (v : List Nat), W[m]? = some v ∧ cx_g n A v = cx_g n A (j :: (u ++ [j]))
variable {w : List Nat} {W : List (List Nat)} {x t : Nat}
theorem shQ_1 (hw : cx_L n w) : shQ n A w [w] 0 0 := by
  refine ⟨rfl, lds_1 w, fun i u hu => ?_, fun i j u _ _ h => by omega⟩
  rw [List.mem_singleton.mp (List.mem_of_getElem? hu)]
  exact ⟨hw, rch_0 w⟩
theorem shQ_n {u : List Nat} (h : shQ n A w W x t) (hu : W[x]? = some u) (hd : cx_l n A u < cx_l n A (t :: (u ++ [t])) ∨ ∃ (m : Nat) (v : List Nat), W[m]? = some v ∧ cx_g n A v = cx_g n A (t :: (u ++ [t]))) : shQ n A w W x (t + 1) := by
  obtain ⟨h1, h2, h3, h4⟩ := h
  refine ⟨h1, h2, h3, fun i j v a1 a2 a3 a4 => ?_⟩
  by_cases hj : i = x ∧ j = t
  · obtain ⟨rfl, rfl⟩ := hj
    rw [hu] at a1
    cases a1
    rcases hd with hd | hd
    · omega
    · exact hd
  · exact h4 i j v a1 a2 (by omega) a4
theorem shQ_b {u v : List Nat} (h : shQ n A w W x t) (hu : W[x]? = some u) (ht : t < n) (hl : cx_l n A (t :: (u ++ [t])) ≤ cx_l n A u) (hv : cx_L n v) (hg : cx_g n A v = cx_g n A (t :: (u ++ [t]))) (hnew : ∀ (m : Nat) (z : List Nat), W[m]? = some z → cx_g n A z ≠ cx_g n A v) : lds n A (W ++ [v]) ∧ ∀ (i : Nat) (z : List Nat), (W ++ [v])[i]? = some z → cx_L n z ∧ rch n A w z := by
  obtain ⟨h1, h2, h3, h4⟩ := h
  refine ⟨lds_app h2 (lds_1 v) (fun i j a b ha hb => ?_), fun i z hz => ?_⟩
  · rw [List.mem_singleton.mp (List.mem_of_getElem? hb)]
    exact hnew i a ha
  · rcases ap_c hz with hz | ⟨_, rfl⟩
    · exact h3 i z hz
    · exact ⟨hv, rch_g (rch_s (h3 x u hu).2 (h3 x u hu).1 ht hl) hg.symm hv⟩
theorem shQ_a {u v : List Nat} (h : shQ n A w W x t) (hu : W[x]? = some u) (ht : t < n) (hl : cx_l n A (t :: (u ++ [t])) ≤ cx_l n A u) (hv : cx_L n v) (hg : cx_g n A v = cx_g n A (t :: (u ++ [t]))) (hnew : ∀ (m : Nat) (z : List Nat), W[m]? = some z → cx_g n A z ≠ cx_g n A v) : shQ n A w (W ++ [v]) x (t + 1) := by
  obtain ⟨b1, b2⟩ := shQ_b h hu ht hl hv hg hnew
  obtain ⟨h1, h2, h3, h4⟩ := h
  have hx := (List.getElem?_eq_some_iff.mp hu).1
  refine ⟨ap_l h1, b1, b2, fun i j z a1 a2 a3 a4 => ?_⟩
  rcases ap_c a1 with a5 | ⟨ha, rfl⟩
  · by_cases hj : i = x ∧ j = t
    · obtain ⟨rfl, rfl⟩ := hj
      rw [hu] at a5
      cases a5
      exact ⟨W.length, v, ap_r, hg⟩
    · obtain ⟨m, y, c1, c2⟩ := h4 i j z a5 a2 (by omega) a4
      exact ⟨m, y, ap_l c1, c2⟩
  · omega
theorem shQ_i (h : shQ n A w W x n) : shQ n A w W (x + 1) 0 := ⟨h.1, h.2.1, h.2.2.1, fun i j u a1 a2 a3 a4 => h.2.2.2 i j u a1 a2 (by omega) a4⟩
theorem sw_g {u v : List Nat} {t : Nat} (h : cx_g n A u = cx_g n A v) : cx_g n A (t :: (u ++ [t])) = cx_g n A (t :: (v ++ [t])) := cx_g_cons t (cx_g_ap1 [t] h)
theorem shQ_z (h : shQ n A w W W.length 0) : lvq n A (rch n A w) W := by
  obtain ⟨h1, h2, h3, h4⟩ := h
  refine ⟨h2, h3, fun z hz hr => ?_⟩
  refine hr (fun z => ∃ (i : Nat) (u : List Nat), W[i]? = some u ∧ cx_g n A u = cx_g n A z) ⟨0, w, h1, rfl⟩ (fun u v hg _ ⟨i, a, ha, hga⟩ => ⟨i, a, ha, hga.trans hg⟩) (fun u t hu ht ⟨i, a, ha, hga⟩ hl => ?_)
  obtain ⟨m, v, c1, c2⟩ := h4 i t a ha ht (Or.inl (List.getElem?_eq_some_iff.mp ha).1) (by rw [cx_l_eq (sw_g hga), cx_l_eq hga]; exact hl)
  exact ⟨m, v, c1, c2.trans (sw_g hga)⟩
end S
