/-! The word of an element (first of the shortest), weights, bounds, rows alike. -/
section S
variable {n : Nat} {A : Nat → Nat → Int}
/-- on the left -/
theorem cx_l_cons {s : Nat} (hok : cx_ok n A) {x : List Nat} (hx : cx_L n x) (hs : s < n) : cx_l n A (s :: x) = cx_l n A (x.reverse ++ [s]) := by
  rw [← cx_l_rev hok (cx_L_cons hs hx), List.reverse_cons]
theorem cx_lstep (hok : cx_ok n A) {x : List Nat} (hx : cx_L n x) {s : Nat} (hs : s < n) : cx_l n A (s :: x) = cx_l n A x + 1 ∨ cx_l n A (s :: x) + 1 = cx_l n A x := by
  rw [cx_l_cons hok hx hs, ← cx_l_rev hok hx]
  rcases cx_step hok (cx_L_rev hx) hs with ⟨h, -⟩ | ⟨h, -⟩
  · exact .inl h
  · exact .inr h
theorem cx_rstep (hok : cx_ok n A) {x : List Nat} (hx : cx_L n x) {s : Nat} (hs : s < n) : cx_l n A (x ++ [s]) = cx_l n A x + 1 ∨ cx_l n A (x ++ [s]) + 1 = cx_l n A x := by
  rcases cx_step hok hx hs with ⟨h, -⟩ | ⟨h, -⟩
  · exact .inl h
  · exact .inr h
theorem cx_ex_ldn (hok : cx_ok n A) {x : List Nat} (hx : cx_L n x) (h : cx_l n A x ≠ 0) : ∃ s, s < n ∧ cx_l n A (s :: x) < cx_l n A x := by
  obtain ⟨s, hs, hd⟩ := cx_ex_dn hok (cx_L_rev hx) (by rw [cx_l_rev hok hx]; exact h)
  exact ⟨s, hs, by rw [cx_l_cons hok hx hs, ← cx_l_rev hok hx]; exact hd⟩
theorem cx_l_len {x : List Nat} (hx : cx_L n x) : cx_l n A x ≤ x.length := cx_l_le hx hx rfl
/-- the first of the shortest words -/
def cx_c (n : Nat) (A : Nat → Nat → Int) : List Nat → Prop
  | [] => True
  | s :: y => s < n ∧ cx_l n A (s :: y) = cx_l n A y + 1 ∧ (∀ r, r < s → ¬ cx_l n A (r :: s :: y) < cx_l n A (s :: y)) ∧ cx_c n A y
theorem cx_c_L {y : List Nat} (h : cx_c n A y) : cx_L n y := by
  induction y with
  | nil => exact cx_L_nil
  | cons s y ih => exact cx_L_cons h.1 (ih h.2.2.2)
theorem cx_c_l {y : List Nat} (h : cx_c n A y) : cx_l n A y = y.length := by
  induction y with
  | nil => exact cx_l_nil
  | cons s y ih => rw [h.2.1, ih h.2.2.2, List.length_cons]
theorem cx_c_ex (hok : cx_ok n A) : ∀ (k : Nat) {x : List Nat}, cx_L n x → cx_l n A x = k → ∃ y, cx_c n A y ∧ cx_g n A y = cx_g n A x := by
  intro k
  induction k with
  | zero =>
    intro x hx h0
    exact ⟨[], trivial, (cx_l_0 hx h0).symm⟩
  | succ k ih =>
    intro x hx hk
    obtain ⟨s, ⟨hs, hd⟩, hmin⟩ := cx_min_ex (P := fun s => s < n ∧ cx_l n A (s :: x) < cx_l n A x) (cx_ex_ldn hok hx (by omega))
    have hl : cx_l n A (s :: x) = k := by
      rcases cx_lstep hok hx hs with h | h <;> omega
    obtain ⟨y, hy, hg⟩ := ih (cx_L_cons hs hx) hl
    have hg2 : cx_g n A (s :: y) = cx_g n A x := (cx_g_cons s hg).trans (cx_g_sc hok hs x)
    have hy1 := cx_l_eq hg
    have hy2 := cx_l_eq hg2
    refine ⟨s :: y, ⟨hs, by omega, fun r hr hlt => ?_, hy⟩, hg2⟩
    have h3 := cx_l_eq (cx_g_cons r hg2)
    rw [h3, hy2] at hlt
    have := hmin r ⟨by omega, hlt⟩
    omega
theorem cx_c_un (hok : cx_ok n A) : ∀ {x y : List Nat}, cx_c n A x → cx_c n A y → cx_g n A x = cx_g n A y → x = y := by
  intro x
  induction x with
  | nil =>
    intro y _ hy hg
    have h1 := cx_c_l hy
    rw [← cx_l_eq hg, cx_l_nil] at h1
    exact (List.length_eq_zero_iff.mp h1.symm).symm
  | cons s x ih =>
    intro y hx hy hg
    have hl := cx_l_eq hg
    cases y with
    | nil =>
      rw [cx_l_nil, cx_c_l hx, List.length_cons] at hl
      omega
    | cons t y =>
      have key : ∀ {s t : Nat} {x y : List Nat}, cx_c n A (s :: x) → cx_c n A (t :: y) → cx_g n A (s :: x) = cx_g n A (t :: y) → t ≤ s := by
        intro s t x y hx hy hg
        apply Nat.le_of_not_lt
        intro h
        apply hy.2.2.1 s h
        rw [← cx_l_eq hg, ← cx_l_eq (cx_g_cons s hg), cx_l_eq (cx_g_sc hok hx.1 x), hx.2.1]
        omega
      have e : s = t := Nat.le_antisymm (key hy hx hg.symm) (key hx hy hg)
      subst e
      rw [ih hx.2.2.2 hy.2.2.2 ?_]
      have h2 := cx_g_cons (n := n) (A := A) s hg
      rw [cx_g_sc hok hx.1, cx_g_sc hok hx.1] at h2
      exact h2
/-! rows: nothing outside, sums -/
theorem cx_a_out {s k : Nat} (hs : s < n) (hk : n ≤ k) (v : Nat → Int) : cx_a n A s v k = v k := by
  unfold cx_a
  rw [if_neg (by omega)]
theorem cx_x_out {x : List Nat} (hx : cx_L n x) {k : Nat} (hk : n ≤ k) (v : Nat → Int) : cx_x n A x v k = v k := by
  induction x with
  | nil => rfl
  | cons s x ih => rw [cx_x, cx_a_out (cx_L_hd hx) hk, ih (cx_L_tl hx)]
theorem cx_a_fix {s : Nat} {v : Nat → Int} (h : ∀ j, j < n → v j = 0) : cx_a n A s v = v := by
  funext k
  unfold cx_a
  have e : cx_sum n (fun j => A s j * v j) = 0 := by
    rw [cx_sum_eq (g := fun j => A s j * 0) (fun j hj => by rw [h j hj]), cx_sum_0]
  rw [e]
  split <;> omega
theorem cx_x_fix {x : List Nat} {v : Nat → Int} (h : ∀ j, j < n → v j = 0) : cx_x n A x v = v := by
  induction x with
  | nil => rfl
  | cons s x ih => rw [cx_x, ih, cx_a_fix h]
theorem cx_sum_add (m : Nat) (f g : Nat → Int) : cx_sum m (fun j => f j + g j) = cx_sum m f + cx_sum m g := by
  have := cx_sum_lin m f g 1
  simp only [Int.one_mul] at this
  exact this
theorem cx_sum_mul (m : Nat) (f : Nat → Int) (c : Int) : cx_sum m (fun j => c * f j) = c * cx_sum m f := by
  induction m with
  | zero => simp [cx_sum]
  | succ m ih => simp only [cx_sum, ih, Int.mul_add]
/-- a row is the sum of start roots -/
theorem cx_x_ex (x : List Nat) (i : Nat) : ∀ (m : Nat) (v : Nat → Int), (∀ j, m ≤ j → v j = 0) → cx_x n A x v i = cx_sum m (fun j => v j * cx_x n A x (cx_e j) i) := by
  intro m
  induction m with
  | zero =>
    intro v h
    have : v = fun _ => 0 := funext (fun j => h j (Nat.zero_le _))
    rw [this, cx_x_zero]
    rfl
  | succ m ih =>
    intro v h
    have e : v = fun k => (fun k => if k = m then 0 else v k) k + v m * cx_e m k := by
      funext k
      unfold cx_e
      by_cases hk : k = m
      · subst hk; simp
      · simp [hk]
    have h2 := ih (fun k => if k = m then 0 else v k) (fun j hj => by
      by_cases hk : j = m
      · simp [hk]
      · simp only [if_neg hk]; exact h j (by omega))
    rw [e, cx_x_lin]
    dsimp only
    rw [h2, cx_sum]
    congr 1
    · refine cx_sum_eq (fun j hj => ?_)
      have hk : ¬ j = m := by omega
      rw [if_neg hk]
      unfold cx_e
      rw [if_neg hk, Int.mul_zero, Int.add_zero]
    · have : cx_e m m = 1 := by unfold cx_e; rw [if_pos rfl]
      rw [this, if_pos rfl]
      congr 1
      omega
/-- weights of x back: sums of what x makes of start roots by the numbers turned over -/
def cx_h (n : Nat) (A : Nat → Nat → Int) (x : List Nat) (j : Nat) : Int := cx_sum n (cx_x n (cx_t A) x (cx_e j))
theorem cx_h_nil {j : Nat} (hj : j < n) : cx_h n A [] j = 1 := by
  have h := cx_sum_e n (fun _ => 1) j
  simp only [Int.one_mul] at h
  rw [if_pos hj] at h
  exact h
theorem cx_x_turn {x : List Nat} {s j : Nat} (hj : j < n) (i : Nat) : cx_x n A (x ++ [s]) (cx_e j) i = cx_x n A x (cx_e j) i - A s j * cx_x n A x (cx_e s) i := by
  rw [cx_x_app]
  show cx_x n A x (cx_a n A s (cx_e j)) i = _
  rw [cx_a_e, cx_sum_e, if_pos hj, cx_x_lin]
  dsimp only
  rw [Int.neg_mul]
  omega
theorem cx_h_turn {x : List Nat} {s j : Nat} (hj : j < n) : cx_h n A (x ++ [s]) j = cx_h n A x j - cx_h n A x s * A j s := by
  unfold cx_h
  rw [cx_sum_eq (fun i _ => cx_x_turn (n := n) (A := cx_t A) (x := x) (s := s) hj i)]
  have h := cx_sum_lin n (cx_x n (cx_t A) x (cx_e j)) (cx_x n (cx_t A) x (cx_e s)) (-(A j s))
  rw [cx_sum_eq (g := fun i => cx_x n (cx_t A) x (cx_e j) i - cx_t A s j * cx_x n (cx_t A) x (cx_e s) i) (fun i _ => by rw [Int.neg_mul]; unfold cx_t; omega)] at h
  rw [h, Int.neg_mul, Int.mul_comm]
  omega
theorem cx_sum_pos {m : Nat} {f : Nat → Int} (h : ∀ j, j < m → 0 ≤ f j) : 0 ≤ cx_sum m f ∧ ((∃ j, j < m ∧ f j ≠ 0) → 0 < cx_sum m f) := by
  induction m with
  | zero => exact ⟨Int.le_refl _, fun ⟨j, hj, _⟩ => by omega⟩
  | succ m ih =>
    obtain ⟨h1, h2⟩ := ih (fun j hj => h j (by omega))
    have h3 := h m (by omega)
    rw [cx_sum]
    refine ⟨by omega, fun ⟨j, hj, hne⟩ => ?_⟩
    by_cases hm : j = m
    · subst hm; omega
    · have := h2 ⟨j, by omega, hne⟩
      omega
theorem cx_sum_neg (m : Nat) (f : Nat → Int) : cx_sum m (fun j => - f j) = - cx_sum m f := by
  have := cx_sum_mul m f (-1)
  simp only [Int.neg_mul, Int.one_mul] at this
  exact this
theorem cx_x_nin (hok : cx_ok n A) {x : List Nat} (hx : cx_L n x) {s : Nat} (hs : s < n) : ∃ i, i < n ∧ cx_x n A x (cx_e s) i ≠ 0 := by
  obtain ⟨i, hi⟩ := cx_x_ne hok hx s
  refine ⟨i, ?_, hi⟩
  apply Nat.lt_of_not_le
  intro h
  rw [cx_x_out hx h] at hi
  unfold cx_e at hi
  rw [if_neg (by omega)] at hi
  exact hi rfl
theorem cx_h_sign (hok : cx_ok n A) {x : List Nat} (hx : cx_L n x) {s : Nat} (hs : s < n) : (0 < cx_h n A x s ∧ cx_l n A (x ++ [s]) = cx_l n A x + 1) ∨ (cx_h n A x s < 0 ∧ cx_l n A (x ++ [s]) + 1 = cx_l n A x) := by
  have h := cx_step (cx_ok_t hok) hx hs
  have hn := cx_x_nin (cx_ok_t hok) hx hs
  rw [cx_l_t, cx_l_t] at h
  rcases h with ⟨h1, h2⟩ | ⟨h1, h2⟩
  · exact .inl ⟨(cx_sum_pos (fun j _ => h2 j)).2 hn, h1⟩
  · refine .inr ⟨?_, h1⟩
    obtain ⟨i, hi, hne⟩ := hn
    have := (cx_sum_pos (m := n) (f := fun j => - cx_x n (cx_t A) x (cx_e s) j) (fun j _ => by have := h2 j; omega)).2 ⟨i, hi, by omega⟩
    rw [cx_sum_neg] at this
    unfold cx_h
    omega
/-- weights alike: one element -/
theorem cx_h_un (hok : cx_ok n A) {x y : List Nat} (hx : cx_L n x) (hy : cx_L n y) (h : ∀ j, j < n → cx_h n A x j = cx_h n A y j) : cx_g n A x = cx_g n A y := by
  have hlin : ∀ (z : List Nat) (v : Nat → Int), (∀ j, n ≤ j → v j = 0) → cx_sum n (cx_x n (cx_t A) z v) = cx_sum n (fun j => v j * cx_h n A z j) := by
    intro z v hv
    have e1 : ∀ (m : Nat), cx_sum m (cx_x n (cx_t A) z v) = cx_sum n (fun j => v j * cx_sum m (cx_x n (cx_t A) z (cx_e j))) := by
      intro m
      induction m with
      | zero =>
        simp only [cx_sum]
        exact (cx_sum_0 n v).symm
      | succ m ih =>
        rw [cx_sum, ih, cx_x_ex z m n v hv, ← cx_sum_add]
        exact cx_sum_eq (fun j _ => by rw [cx_sum, Int.mul_add])
    exact e1 n
  have h1 : cx_g n A (x ++ y.reverse) = cx_g n A [] := by
    have hL := cx_L_app hx (cx_L_rev hy)
    apply cx_l_0 hL
    apply Classical.byContradiction
    intro h0
    obtain ⟨s, hs, hd⟩ := cx_ex_dn hok hL h0
    rcases cx_h_sign hok hL hs with ⟨-, hh⟩ | ⟨hh, -⟩
    · omega
    · have hv : ∀ j, n ≤ j → cx_x n (cx_t A) y.reverse (cx_e s) j = 0 := by
        intro j hj
        rw [cx_x_out (cx_L_rev hy) hj]
        unfold cx_e
        rw [if_neg (by omega)]
      unfold cx_h at hh
      have e2 : cx_x n (cx_t A) (x ++ y.reverse) (cx_e s) = cx_x n (cx_t A) x (cx_x n (cx_t A) y.reverse (cx_e s)) := cx_x_app _ _ _ _ _
      rw [e2, hlin x _ hv, cx_sum_eq (fun j hj => by rw [h j hj]), ← hlin y _ hv] at hh
      have e3 := cx_x_inv (cx_ok_t hok) (cx_L_rev hy) (cx_e s)
      rw [List.reverse_reverse] at e3
      rw [e3] at hh
      have := cx_h_nil (A := A) hs
      unfold cx_h at this
      have e4 : cx_x n (cx_t A) [] (cx_e s) = cx_e s := rfl
      rw [e4] at this
      omega
  have h2 := cx_g_vm hok (cx_L_rev hy) h1
  rw [List.reverse_reverse, List.nil_append] at h2
  exact h2
/-! bounds -/
def cx_n1 (m : Nat) (v : Nat → Int) : Int := cx_sum m (fun j => (v j).natAbs)
theorem cx_sum_le {m : Nat} {f g : Nat → Int} (h : ∀ j, j < m → f j ≤ g j) : cx_sum m f ≤ cx_sum m g := by
  induction m with
  | zero => exact Int.le_refl _
  | succ m ih =>
    rw [cx_sum, cx_sum]
    have := ih (fun j hj => h j (by omega))
    have := h m (by omega)
    omega
theorem cx_one_le {m : Nat} {f : Nat → Int} (h : ∀ j, j < m → 0 ≤ f j) {k : Nat} (hk : k < m) : f k ≤ cx_sum m f := by
  induction m with
  | zero => omega
  | succ m ih =>
    rw [cx_sum]
    have h0 := (cx_sum_pos (fun j hj => h j (by omega : j < m + 1)) (m := m)).1
    by_cases hm : k = m
    · subst hm; omega
    · have := ih (fun j hj => h j (by omega)) (by omega)
      have := h m (by omega)
      omega
theorem cx_pr_le {a b : Int} {m : Nat} (h : cx_pr a b m) : a.natAbs ≤ 3 ∧ b.natAbs ≤ 3 := by
  unfold cx_pr at h
  omega
theorem cx_sum_abs (m : Nat) (f : Nat → Int) : ((cx_sum m f).natAbs : Int) ≤ cx_sum m (fun j => (f j).natAbs) := by
  induction m with
  | zero => exact Int.le_refl _
  | succ m ih => rw [cx_sum, cx_sum]; omega
theorem cx_sum_upd (m : Nat) (f : Nat → Int) (s : Nat) (hs : s < m) (c : Int) : cx_sum m (fun j => if j = s then c else f j) = cx_sum m f - f s + c := by
  induction m with
  | zero => omega
  | succ m ih =>
    rw [cx_sum, cx_sum]
    by_cases h : m = s
    · subst h
      have e : cx_sum m (fun j => if j = m then c else f j) = cx_sum m f := cx_sum_eq (fun j hj => by rw [if_neg (by omega)])
      rw [e, if_pos rfl]; omega
    · rw [if_neg h, ih (by omega)]; omega
theorem cx_n1_a (hok : cx_ok n A) {s : Nat} (hs : s < n) (v : Nat → Int) : cx_n1 n (cx_a n A s v) ≤ 4 * cx_n1 n v := by
  have e : (fun j => ((cx_a n A s v j).natAbs : Int)) = fun j => if j = s then ((v s - cx_sum n (fun j => A s j * v j)).natAbs : Int) else ((v j).natAbs : Int) := by
    funext j
    unfold cx_a
    by_cases h : j = s
    · subst h; simp
    · simp [h]
  unfold cx_n1
  rw [e, cx_sum_upd n (fun j => ((v j).natAbs : Int)) s hs]
  have e2 : v s - cx_sum n (fun j => A s j * v j) = cx_sum n (fun j => if j = s then - v s else - (A s j * v j)) := by
    rw [cx_sum_upd n (fun j => - (A s j * v j)) s hs, cx_sum_neg, hok.1 s hs]
    omega
  rw [e2]
  have h1 := cx_sum_abs n (fun j => if j = s then - v s else - (A s j * v j))
  have h2 : cx_sum n (fun j => ((if j = s then - v s else - (A s j * v j)).natAbs : Int)) ≤ cx_sum n (fun j => if j = s then ((v s).natAbs : Int) else 3 * ((v j).natAbs : Int)) := by
    refine cx_sum_le (fun j hj => ?_)
    by_cases h : j = s
    · rw [if_pos h, if_pos h]; omega
    · rw [if_neg h, if_neg h, Int.natAbs_neg, Int.natAbs_mul]
      obtain ⟨m, hm⟩ := hok.2 s j hs hj (fun e => h e.symm)
      have h3 := (cx_pr_le hm).1
      have h4 : (A s j).natAbs * (v j).natAbs ≤ 3 * (v j).natAbs := Nat.mul_le_mul_right _ h3
      omega
  rw [cx_sum_upd n (fun j => 3 * ((v j).natAbs : Int)) s hs, cx_sum_mul] at h2
  have h5 := cx_one_le (m := n) (f := fun j => ((v j).natAbs : Int)) (fun j _ => by omega) hs
  omega
theorem cx_n1_x (hok : cx_ok n A) {x : List Nat} (hx : cx_L n x) (v : Nat → Int) : cx_n1 n (cx_x n A x v) ≤ 4 ^ x.length * cx_n1 n v := by
  induction x with
  | nil =>
    show cx_n1 n v ≤ 4 ^ 0 * cx_n1 n v
    omega
  | cons s x ih =>
    have h1 := cx_n1_a hok (cx_L_hd hx) (cx_x n A x v)
    have h2 := ih (cx_L_tl hx)
    rw [cx_x, List.length_cons, Int.pow_succ, Int.mul_comm (4 ^ x.length) 4, Int.mul_assoc]
    omega
theorem cx_n1_e {s : Nat} (hs : s < n) : cx_n1 n (cx_e s) = 1 := by
  have h := cx_sum_e n (fun _ => 1) s
  simp only [Int.one_mul] at h
  rw [if_pos hs] at h
  rw [← h]
  exact cx_sum_eq (fun j _ => by unfold cx_e; split <;> rfl)
theorem cx_bd (hok : cx_ok n A) {x : List Nat} (hx : cx_L n x) {s : Nat} (hs : s < n) : cx_n1 n (cx_x n A x (cx_e s)) ≤ 4 ^ cx_l n A x := by
  obtain ⟨y, h1, h2, h3⟩ := cx_l_w (A := A) hx
  have h := cx_n1_x hok h1 (cx_e s)
  rw [cx_n1_e hs, Int.mul_one, h2] at h
  rw [← cx_x_g h3]
  exact h
/-- numbers of what an element of length l makes of start roots -/
theorem cx_bd_x (hok : cx_ok n A) {x : List Nat} (hx : cx_L n x) {s : Nat} (hs : s < n) (i : Nat) : ((cx_x n A x (cx_e s) i).natAbs : Int) ≤ 4 ^ cx_l n A x := by
  by_cases hi : i < n
  · have h1 := cx_one_le (m := n) (f := fun j => ((cx_x n A x (cx_e s) j).natAbs : Int)) (fun j _ => by omega) hi
    have h2 := cx_bd hok hx hs
    unfold cx_n1 at h2
    omega
  · rw [cx_x_out hx (by omega)]
    unfold cx_e
    rw [if_neg (by omega)]
    have : (0 : Int) < 4 ^ cx_l n A x := Int.pow_pos (by decide)
    simp only [Int.natAbs_zero]
    omega
theorem cx_bd_h (hok : cx_ok n A) {x : List Nat} (hx : cx_L n x) {s : Nat} (hs : s < n) : ((cx_h n A x s).natAbs : Int) ≤ 4 ^ cx_l n A x := by
  have h1 := cx_bd (cx_ok_t hok) hx hs
  rw [cx_l_t] at h1
  have h2 := cx_sum_abs n (cx_x n (cx_t A) x (cx_e s))
  unfold cx_n1 at h1
  unfold cx_h
  omega
end S
