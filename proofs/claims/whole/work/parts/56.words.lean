/-! Down on the right; letters taken as far as it goes down; rows of weights. -/
def dn (n : Nat) (A : Nat → Nat → Int) (u : List Nat) (j : Nat) : Prop := cx_l n A (u ++ [j]) < cx_l n A u
def tk (n : Nat) (A : Nat → Nat → Int) (p : Nat → Prop) : List Nat → List Nat → Prop
  | u, [] => ∀ j, j < n → ¬ (p j ∧ dn n A u j)
  | u, s :: z => (s < n ∧ p s ∧ dn n A u s ∧ ∀ r, r < s → ¬ (p r ∧ dn n A u r)) ∧ tk n A p (u ++ [s]) z
/-- a row has the weights of u back -/
def wt (n : Nat) (A : Nat → Nat → Int) (u : List Nat) (g : Nat → Int64) (o : Nat) : Prop := ∀ j, j < n → g (o + j) = zJ (cx_h n A u j)
/-- a word in a row of ints -/
def wd (f : Nat → Int32) (p : Nat) (y : List Nat) : Prop := ∀ i c, y[i]? = some c → f (p + i) = nI c
section S
variable {n : Nat} {A : Nat → Nat → Int}
theorem dn_g {u u' : List Nat} (h : cx_g n A u = cx_g n A u') (j : Nat) : dn n A u j ↔ dn n A u' j := by
  unfold dn
  rw [cx_l_eq h, cx_l_eq (cx_g_ap1 [j] h)]
theorem dn_rev (hok : cx_ok n A) {u : List Nat} (hu : cx_L n u) {j : Nat} (hj : j < n) : dn n A u j ↔ cx_l n A (j :: u.reverse) < cx_l n A u.reverse := by
  unfold dn
  rw [cx_l_cons hok (cx_L_rev hu) hj, List.reverse_reverse, cx_l_rev hok hu]
theorem dn_1 (hok : cx_ok n A) {u : List Nat} (hu : cx_L n u) {j : Nat} (hj : j < n) (h : dn n A u j) : cx_l n A (u ++ [j]) + 1 = cx_l n A u := by
  unfold dn at h
  rcases cx_rstep hok hu hj with h2 | h2
  · omega
  · exact h2
theorem up_1 (hok : cx_ok n A) {u : List Nat} (hu : cx_L n u) {j : Nat} (hj : j < n) (h : ¬ dn n A u j) : cx_l n A (u ++ [j]) = cx_l n A u + 1 := by
  unfold dn at h
  rcases cx_rstep hok hu hj with h2 | h2
  · exact h2
  · omega
theorem dn_dn (hok : cx_ok n A) {u : List Nat} (hu : cx_L n u) {j : Nat} (hj : j < n) : dn n A (u ++ [j]) j ↔ ¬ dn n A u j := by
  have h : cx_l n A (u ++ [j] ++ [j]) = cx_l n A u := cx_l_eq (cx_g_sr hok hj u)
  unfold dn
  rw [h]
  rcases cx_rstep hok hu hj with h2 | h2 <;> omega
theorem tk_g {p : Nat → Prop} : ∀ {z u u' : List Nat}, cx_g n A u = cx_g n A u' → tk n A p u z → tk n A p u' z := by
  intro z
  induction z with
  | nil =>
    intro u u' h ht j hj
    rw [← dn_g h]
    exact ht j hj
  | cons s z ih =>
    intro u u' h ht
    refine ⟨⟨ht.1.1, ht.1.2.1, (dn_g h s).mp ht.1.2.2.1, fun r hr => ?_⟩, ih (cx_g_ap1 [s] h) ht.2⟩
    rw [← dn_g h]
    exact ht.1.2.2.2 r hr
theorem tk_cg {p q : Nat → Prop} (hpq : ∀ j, j < n → (p j ↔ q j)) : ∀ {z u : List Nat}, tk n A p u z → tk n A q u z := by
  intro z
  induction z with
  | nil =>
    intro u ht j hj h
    exact ht j hj ⟨(hpq j hj).mpr h.1, h.2⟩
  | cons s z ih =>
    intro u ht
    refine ⟨⟨ht.1.1, (hpq s ht.1.1).mp ht.1.2.1, ht.1.2.2.1, fun r hr h => ?_⟩, ih ht.2⟩
    have := ht.1.1
    exact ht.1.2.2.2 r hr ⟨(hpq r (by omega)).mpr h.1, h.2⟩
theorem tk_len (hok : cx_ok n A) {p : Nat → Prop} : ∀ {z u : List Nat}, cx_L n u → tk n A p u z → cx_L n z ∧ cx_l n A (u ++ z) + z.length = cx_l n A u := by
  intro z
  induction z with
  | nil => intro u hu _; exact ⟨cx_L_nil, by rw [List.append_nil]; rfl⟩
  | cons s z ih =>
    intro u hu ht
    obtain ⟨h1, h2⟩ := ih (cx_L_app hu (cx_L_1 ht.1.1)) ht.2
    refine ⟨cx_L_cons ht.1.1 h1, ?_⟩
    have h3 := dn_1 hok hu ht.1.1 ht.1.2.2.1
    rw [List.append_assoc] at h2
    rw [List.length_cons]
    show cx_l n A (u ++ ([s] ++ z)) + _ = _
    omega
theorem tk_ex (hok : cx_ok n A) (p : Nat → Prop) : ∀ (k : Nat) {u : List Nat}, cx_L n u → cx_l n A u = k → ∃ z, tk n A p u z := by
  intro k
  induction k with
  | zero =>
    intro u hu h0
    refine ⟨[], fun j hj h => ?_⟩
    have := h.2
    unfold dn at this
    omega
  | succ k ih =>
    intro u hu hk
    by_cases h : ∃ j, j < n ∧ p j ∧ dn n A u j
    · obtain ⟨s, ⟨hs, hp, hd⟩, hmin⟩ := cx_min_ex (P := fun s => s < n ∧ p s ∧ dn n A u s) h
      obtain ⟨z, hz⟩ := ih (cx_L_app hu (cx_L_1 hs)) (by have := dn_1 hok hu hs hd; omega)
      refine ⟨s :: z, ⟨hs, hp, hd, fun r hr h => ?_⟩, hz⟩
      have := hmin r ⟨by omega, h⟩
      omega
    · exact ⟨[], fun j hj h2 => h ⟨j, hj, h2⟩⟩
theorem tk_un {p : Nat → Prop} : ∀ {z z' u : List Nat}, tk n A p u z → tk n A p u z' → z = z' := by
  intro z
  induction z with
  | nil =>
    intro z' u h h'
    cases z' with
    | nil => rfl
    | cons t z' => exact absurd ⟨h'.1.2.1, h'.1.2.2.1⟩ (h t h'.1.1)
  | cons s z ih =>
    intro z' u h h'
    cases z' with
    | nil => exact absurd ⟨h.1.2.1, h.1.2.2.1⟩ (h' s h.1.1)
    | cons t z' =>
      have e : s = t := by
        apply Nat.le_antisymm
        · apply Nat.le_of_not_lt
          intro hlt
          exact h.1.2.2.2 t hlt ⟨h'.1.2.1, h'.1.2.2.1⟩
        · apply Nat.le_of_not_lt
          intro hlt
          exact h'.1.2.2.2 s hlt ⟨h.1.2.1, h.1.2.2.1⟩
      subst e
      rw [ih h.2 h'.2]
theorem tk_c (hok : cx_ok n A) : ∀ {z u : List Nat}, cx_L n u → tk n A (fun _ => True) u z → cx_c n A z ∧ cx_g n A z = cx_g n A u.reverse := by
  intro z
  induction z with
  | nil =>
    intro u hu ht
    have h0 : cx_l n A u = 0 := by
      apply Classical.byContradiction
      intro h
      obtain ⟨s, hs, hd⟩ := cx_ex_dn hok hu h
      exact ht s hs ⟨trivial, hd⟩
    refine ⟨trivial, ?_⟩
    have := cx_g_rev hok hu cx_L_nil (cx_l_0 hu h0)
    exact this.symm
  | cons s z ih =>
    intro u hu ht
    have hs := ht.1.1
    obtain ⟨h1, h2⟩ := ih (cx_L_app hu (cx_L_1 hs)) ht.2
    rw [List.reverse_append] at h2
    have h2' : cx_g n A z = cx_g n A (s :: u.reverse) := h2
    have h3 : cx_g n A (s :: z) = cx_g n A u.reverse := (cx_g_cons s h2').trans (cx_g_sc hok hs _)
    have l1 := cx_l_eq h3
    have l2 := cx_l_eq h2'
    have l3 := dn_1 hok hu hs ht.1.2.2.1
    have l4 := cx_l_rev hok hu
    have l5 : cx_l n A (s :: u.reverse) = cx_l n A (u ++ [s]) := by rw [cx_l_cons hok (cx_L_rev hu) hs, List.reverse_reverse]
    refine ⟨⟨hs, by omega, fun r hr hlt => ?_, h1⟩, h3⟩
    apply ht.1.2.2.2 r hr
    refine ⟨trivial, ?_⟩
    rw [dn_rev hok hu (by omega), ← cx_l_eq (cx_g_cons r h3), ← l1]
    exact hlt
theorem tk_app {p : Nat → Prop} : ∀ {z z' u : List Nat}, tk n A p u (z ++ z') → tk n A p (u ++ z) z' := by
  intro z
  induction z with
  | nil => intro z' u h; rw [List.append_nil]; exact h
  | cons s z ih =>
    intro z' u h
    have := ih h.2
    rw [List.append_assoc] at this
    exact this
/-! rows of weights -/
theorem pow31 {k : Nat} (h : k ≤ 31) : (4 : Int) ^ k ≤ 4611686018427387904 := by
  have h1 : (4 : Nat) ^ k ≤ 4 ^ 31 := Nat.pow_le_pow_right (by decide) h
  have h2 : ((4 ^ k : Nat) : Int) ≤ ((4 ^ 31 : Nat) : Int) := Int.ofNat_le.mpr h1
  rw [Int.natCast_pow] at h2
  exact h2
theorem h_in (hok : cx_ok n A) {u : List Nat} (hu : cx_L n u) (hl : cx_l n A u ≤ 31) {j : Nat} (hj : j < n) : -2 ^ 63 ≤ cx_h n A u j ∧ cx_h n A u j < 2 ^ 63 := by
  have h1 := cx_bd_h hok hu hj
  have h2 := pow31 hl
  omega
theorem wt_dn (hok : cx_ok n A) {u : List Nat} (hu : cx_L n u) (hl : cx_l n A u ≤ 31) {g : Nat → Int64} {o : Nat} (h : wt n A u g o) {j : Nat} (hj : j < n) : g (o + j) < 0 ↔ dn n A u j := by
  have hb := h_in hok hu hl hj
  rw [h j hj, zJ_lt hb.1 hb.2]
  unfold dn
  rcases cx_h_sign hok hu hj with h1 | h1 <;> omega
theorem wt_turn {u : List Nat} {t : Nat} {J : hJ} {b p : Nat} (h : wt n A u (J b) p) (ht : t < n) : wt n A (u ++ [t]) (rwJ J b p n (fun j => J b (p + j) - J b (p + t) * zJ (A j t)) b) p := by
  intro j hj
  rw [rwJ_in hj, h j hj, h t ht, zJ_mul, zJ_sub, cx_h_turn hj]
theorem wt_nil {J : hJ} {b p : Nat} : wt n A [] (rwJ J b p n (fun _ => zJ 1) b) p := by
  intro j hj
  rw [rwJ_in hj, cx_h_nil hj]
theorem wt_cp {u : List Nat} {J : hJ} {a b o p : Nat} (h : wt n A u (J a) o) : wt n A u (rwJ J b p n (fun j => J a (o + j)) b) p := by
  intro j hj
  rw [rwJ_in hj, h j hj]
theorem wt_cg {u u' : List Nat} (hg : cx_g n A u = cx_g n A u') {g : Nat → Int64} {o : Nat} (h : wt n A u g o) : wt n A u' g o := by
  intro j hj
  rw [h j hj]
  congr 1
  unfold cx_h
  have : cx_x n (cx_t A) u = cx_x n (cx_t A) u' := congrArg Prod.snd hg
  rw [this]
theorem wt_un (hok : cx_ok n A) {u v : List Nat} (hu : cx_L n u) (hv : cx_L n v) (hl : cx_l n A u ≤ 31) (hl' : cx_l n A v ≤ 31) {g g' : Nat → Int64} {o o' : Nat} (h : wt n A u g o) (h' : wt n A v g' o') : (∀ j, j < n → g (o + j) = g' (o' + j)) ↔ cx_g n A u = cx_g n A v := by
  constructor
  · intro he
    apply cx_h_un hok hu hv
    intro j hj
    have e := he j hj
    rw [h j hj, h' j hj] at e
    have b1 := h_in hok hu hl hj
    have b2 := h_in hok hv hl' hj
    exact zJ_inj b1.1 b1.2 b2.1 b2.2 e
  · intro hg j hj
    rw [wt_cg hg h j hj, h' j hj]
theorem wt_ne {u : List Nat} {J J' : hJ} {b o : Nat} (e : J' b = J b) (h : wt n A u (J b) o) : wt n A u (J' b) o := by rw [e]; exact h
/-! words -/
theorem wd_nil {f : Nat → Int32} {p : Nat} : wd f p [] := fun i c h => by cases h
theorem wd_snoc {I : hI} {b p : Nat} {y : List Nat} {c : Nat} (h : wd (I b) p y) : wd (upI I b (p + y.length) (nI c) b) p (y ++ [c]) := by
  intro i d hi
  rw [upI_at]
  by_cases h1 : i = y.length
  · subst h1
    rw [List.getElem?_append_right (Nat.le_refl _), Nat.sub_self] at hi
    rw [if_pos rfl, ← Option.some.inj hi]
  · have hlt : i < y.length := by
      have := (List.getElem?_eq_some_iff.mp hi).1
      rw [List.length_append] at this
      simp at this
      omega
    rw [List.getElem?_append_left hlt] at hi
    rw [if_neg (by omega)]
    exact h i d hi
theorem wd_ne {I I' : hI} {b p : Nat} {y : List Nat} (e : I' b = I b) (h : wd (I b) p y) : wd (I' b) p y := by rw [e]; exact h
theorem wd_out {I : hI} {b p q : Nat} {x : Int32} {y : List Nat} (h : wd (I b) p y) (hq : q < p ∨ p + y.length ≤ q) : wd (upI I b q x b) p y := by
  intro i c hi
  have := (List.getElem?_eq_some_iff.mp hi).1
  rw [upI_at, if_neg (by omega)]
  exact h i c hi
/-- what keeping an element answers -/
def kpr (els : List (List Nat)) (y : List Nat) (v : Int32) (els' : List (List Nat)) : Prop :=
  (∃ w : Nat, els[w]? = some y ∧ (∀ w' : Nat, w' < w → els[w']? ≠ some y) ∧ v = nI w ∧ els' = els) ∨ ((∀ w : Nat, els[w]? ≠ some y) ∧ els.length < 40 ∧ v = nI els.length ∧ els' = els ++ [y]) ∨ ((∀ w : Nat, els[w]? ≠ some y) ∧ 40 ≤ els.length ∧ v = gI 1004 ∧ els' = els)
theorem kpr_un {els : List (List Nat)} {y : List Nat} {v v' : Int32} {e e' : List (List Nat)} (h : kpr els y v e) (h' : kpr els y v' e') : v = v' ∧ e = e' := by
  rcases h with ⟨w, h1, h2, h3, h4⟩ | ⟨h1, h2, h3, h4⟩ | ⟨h1, h2, h3, h4⟩
  · rcases h' with ⟨w', k1, k2, k3, k4⟩ | ⟨k1, k2, k3, k4⟩ | ⟨k1, k2, k3, k4⟩
    · have : w = w' := by
        apply Nat.le_antisymm
        · exact Nat.le_of_not_lt (fun hlt => h2 w' hlt k1)
        · exact Nat.le_of_not_lt (fun hlt => k2 w hlt h1)
      subst this
      exact ⟨h3.trans k3.symm, h4.trans k4.symm⟩
    · exact absurd h1 (k1 w)
    · exact absurd h1 (k1 w)
  · rcases h' with ⟨w', k1, k2, k3, k4⟩ | ⟨k1, k2, k3, k4⟩ | ⟨k1, k2, k3, k4⟩
    · exact absurd k1 (h1 w')
    · exact ⟨h3.trans k3.symm, h4.trans k4.symm⟩
    · omega
  · rcases h' with ⟨w', k1, k2, k3, k4⟩ | ⟨k1, k2, k3, k4⟩ | ⟨k1, k2, k3, k4⟩
    · exact absurd k1 (h1 w')
    · omega
    · exact ⟨h3.trans k3.symm, h4.trans k4.symm⟩
end S
