/-! Lengths; a mirror that doesn't shorten leaves its start root's numbers 0 or more. -/
theorem cx_sum_0 (n : Nat) (f : Nat → Int) : cx_sum n (fun j => f j * 0) = 0 := by
  induction n with
  | zero => rfl
  | succ n ih => rw [cx_sum, ih]; omega
theorem cx_sum_e (n : Nat) (f : Nat → Int) (s : Nat) : cx_sum n (fun j => f j * cx_e s j) = if s < n then f s else 0 := by
  induction n with
  | zero => rfl
  | succ n ih =>
    rw [cx_sum, ih]
    unfold cx_e
    by_cases h : n = s
    · subst h
      rw [if_neg (Nat.lt_irrefl _), if_pos rfl, if_pos (Nat.lt_succ_self _)]
      omega
    · rw [if_neg h]
      by_cases h2 : s < n
      · rw [if_pos h2, if_pos (by omega)]; omega
      · rw [if_neg h2, if_neg (by omega)]; omega
section S
variable {n : Nat} {A : Nat → Nat → Int}
theorem cx_a_e (s : Nat) (v : Nat → Int) : cx_a n A s v = fun k => v k + (-(cx_sum n (fun j => A s j * v j))) * cx_e s k := by
  funext k
  unfold cx_a cx_e
  by_cases h : k = s
  · rw [if_pos h, if_pos h]; omega
  · rw [if_neg h, if_neg h]; omega
theorem cx_ss {s : Nat} (hA : A s s = 2) (hs : s < n) (v : Nat → Int) : cx_a n A s (cx_a n A s v) = v := by
  have e : cx_sum n (fun j => A s j * cx_a n A s v j) = -(cx_sum n (fun j => A s j * v j)) := by
    rw [cx_a_e]
    have h : cx_sum n (fun j => A s j * (v j + (-(cx_sum n (fun j => A s j * v j))) * cx_e s j)) = cx_sum n (fun j => A s j * v j) + (-(cx_sum n (fun j => A s j * v j))) * cx_sum n (fun j => A s j * cx_e s j) := by
      rw [← cx_sum_lin]
      exact cx_sum_eq (fun j _ => by rw [Int.mul_add, Int.mul_left_comm])
    rw [h, cx_sum_e, if_pos hs, hA]
    omega
  funext k
  rw [cx_a_e s (cx_a n A s v), e]
  dsimp only
  rw [cx_a_e s v]
  dsimp only
  generalize cx_sum n (fun j => A s j * v j) = c
  unfold cx_e
  by_cases h : k = s
  · rw [if_pos h]; omega
  · rw [if_neg h]; omega
theorem cx_g_ss (hok : cx_ok n A) {s : Nat} (hs : s < n) : cx_g n A [s, s] = cx_g n A [] :=
  cx_g_of (fun v => cx_ss (hok.1 s hs) hs v) (fun v => cx_ss (A := cx_t A) (hok.1 s hs) hs v)
theorem cx_braid1 (hok : cx_ok n A) {s t m : Nat} (hs : s < n) (ht : t < n) (hst : s ≠ t) (hm : cx_pr (A s t) (A t s) m) (hm0 : m ≠ 0) (v : Nat → Int) : cx_x n A (cx_al s t m) v = cx_x n A (cx_al t s m) v := by
  have hAs := hok.1 s hs
  have hAt := hok.1 t ht
  have key : ∀ a b, cx_x n A (cx_al s t m) (cx_pl v s t a b) = cx_x n A (cx_al t s m) (cx_pl v s t a b) := by
    intro a b
    rcases hm with ⟨rfl, h1, h2⟩ | ⟨rfl, h1, h2⟩ | ⟨rfl, ⟨h1, h2⟩ | ⟨h1, h2⟩⟩ | ⟨rfl, ⟨h1, h2⟩ | ⟨h1, h2⟩⟩ | ⟨rfl, h1, h2⟩
    all_goals first | exact absurd rfl hm0 | skip
    all_goals
      simp only [cx_al, cx_x, Nat.reduceMod, if_pos, if_neg, Nat.zero_mod, Nat.one_ne_zero, if_true, if_false, reduceIte, cx_pl_s hAs hs ht hst, cx_pl_t hAt hs ht hst, h1, h2]
      generalize cx_sum n (fun j => A s j * v j) = c
      generalize cx_sum n (fun j => A t j * v j) = d
      congr 1 <;> omega
  have h := key 0 0
  rw [cx_pl_0] at h
  exact h
theorem cx_g_braid (hok : cx_ok n A) {s t m : Nat} (hs : s < n) (ht : t < n) (hst : s ≠ t) (hm : cx_pr (A s t) (A t s) m) (hm0 : m ≠ 0) : cx_g n A (cx_al s t m) = cx_g n A (cx_al t s m) :=
  cx_g_of (cx_braid1 hok hs ht hst hm hm0) (cx_braid1 (cx_ok_t hok) hs ht hst (cx_pr_t hm) hm0)
/-- what s, t by turns make of start root s -/
def cx_ab (p r : Int) : Nat → Int × Int
  | 0 => (1, 0)
  | k + 1 => if k % 2 = 0 then ((cx_ab p r k).1, -(cx_ab p r k).2 - r * (cx_ab p r k).1) else (-(cx_ab p r k).1 - p * (cx_ab p r k).2, (cx_ab p r k).2)
theorem cx_ab_x (hok : cx_ok n A) {s t : Nat} (hs : s < n) (ht : t < n) (hst : s ≠ t) (k : Nat) : cx_x n A (cx_al s t k) (cx_e s) = cx_pl (fun _ => 0) s t (cx_ab (A s t) (A t s) k).1 (cx_ab (A s t) (A t s) k).2 := by
  induction k with
  | zero =>
    funext i
    show cx_e s i = cx_pl (fun _ => 0) s t 1 0 i
    unfold cx_e cx_pl
    by_cases h : i = s
    · simp [h]
    · simp [h]
  | succ k ih =>
    rw [cx_al, cx_x, ih, cx_ab]
    by_cases h : k % 2 = 0
    · rw [if_pos h, if_pos h, cx_pl_t (hok.1 t ht) hs ht hst, cx_sum_0]
      dsimp only
      congr 1
      omega
    · rw [if_neg h, if_neg h, cx_pl_s (hok.1 s hs) hs ht hst, cx_sum_0]
      dsimp only
      congr 1
      omega
theorem cx_ab_inf (i : Nat) : cx_ab (-2) (-2) (2 * i) = (2 * (i : Int) + 1, 2 * (i : Int)) := by
  induction i with
  | zero => rfl
  | succ i ih =>
    rw [show 2 * (i + 1) = (2 * i + 1) + 1 by omega, cx_ab, if_neg (by omega), cx_ab, if_pos (by omega), ih]
    dsimp only
    refine Prod.ext ?_ ?_
    · dsimp only; omega
    · dsimp only; omega
theorem cx_ab_pos {p r : Int} {m k : Nat} (hm : cx_pr p r m) (hk : m ≠ 0 → k < m) : 0 ≤ (cx_ab p r k).1 ∧ 0 ≤ (cx_ab p r k).2 := by
  have d2 : ∀ k, k < 2 → 0 ≤ (cx_ab 0 0 k).1 ∧ 0 ≤ (cx_ab 0 0 k).2 := by decide
  have d3 : ∀ k, k < 3 → 0 ≤ (cx_ab (-1) (-1) k).1 ∧ 0 ≤ (cx_ab (-1) (-1) k).2 := by decide
  have d4 : ∀ k, k < 4 → 0 ≤ (cx_ab (-2) (-1) k).1 ∧ 0 ≤ (cx_ab (-2) (-1) k).2 := by decide
  have d4b : ∀ k, k < 4 → 0 ≤ (cx_ab (-1) (-2) k).1 ∧ 0 ≤ (cx_ab (-1) (-2) k).2 := by decide
  have d6 : ∀ k, k < 6 → 0 ≤ (cx_ab (-3) (-1) k).1 ∧ 0 ≤ (cx_ab (-3) (-1) k).2 := by decide
  have d6b : ∀ k, k < 6 → 0 ≤ (cx_ab (-1) (-3) k).1 ∧ 0 ≤ (cx_ab (-1) (-3) k).2 := by decide
  rcases hm with ⟨rfl, rfl, rfl⟩ | ⟨rfl, rfl, rfl⟩ | ⟨rfl, ⟨rfl, rfl⟩ | ⟨rfl, rfl⟩⟩ | ⟨rfl, ⟨rfl, rfl⟩ | ⟨rfl, rfl⟩⟩ | ⟨rfl, rfl, rfl⟩
  · exact d2 k (hk (by omega))
  · exact d3 k (hk (by omega))
  · exact d4 k (hk (by omega))
  · exact d4b k (hk (by omega))
  · exact d6 k (hk (by omega))
  · exact d6b k (hk (by omega))
  · rcases Nat.mod_two_eq_zero_or_one k with h | h
    · have e : k = 2 * (k / 2) := by omega
      rw [e, cx_ab_inf]
      dsimp only
      omega
    · have e : k = 2 * (k / 2) + 1 := by omega
      rw [e, cx_ab, if_pos (by omega), cx_ab_inf]
      dsimp only
      omega
theorem cx_min_ex {P : Nat → Prop} : (∃ k, P k) → ∃ k, P k ∧ ∀ j, P j → k ≤ j := by
  rintro ⟨k, hk⟩
  induction k using Nat.strongRecOn with
  | ind k ih =>
    by_cases h : ∃ j, j < k ∧ P j
    · obtain ⟨j, hj, hp⟩ := h
      exact ih j hj hp
    · exact ⟨k, hk, fun j hj => Nat.le_of_not_lt (fun hlt => h ⟨j, hlt, hj⟩)⟩
/-- the words of an element have this many letters, or more -/
noncomputable def cx_l (n : Nat) (A : Nat → Nat → Int) (x : List Nat) : Nat := Classical.epsilon (fun k => (∃ y, cx_L n y ∧ y.length = k ∧ cx_g n A y = cx_g n A x) ∧ ∀ y, cx_L n y → cx_g n A y = cx_g n A x → k ≤ y.length)
theorem cx_l_sp {x : List Nat} (hx : cx_L n x) : (∃ y, cx_L n y ∧ y.length = cx_l n A x ∧ cx_g n A y = cx_g n A x) ∧ ∀ y, cx_L n y → cx_g n A y = cx_g n A x → cx_l n A x ≤ y.length := by
  refine Classical.epsilon_spec (p := fun k => (∃ y, cx_L n y ∧ y.length = k ∧ cx_g n A y = cx_g n A x) ∧ ∀ y, cx_L n y → cx_g n A y = cx_g n A x → k ≤ y.length) ?_
  obtain ⟨k, h1, h2⟩ := cx_min_ex (P := fun k => ∃ y, cx_L n y ∧ y.length = k ∧ cx_g n A y = cx_g n A x) ⟨x.length, x, hx, rfl, rfl⟩
  exact ⟨k, h1, fun y hy hg => h2 _ ⟨y, hy, rfl, hg⟩⟩
theorem cx_l_w {x : List Nat} (hx : cx_L n x) : ∃ y, cx_L n y ∧ y.length = cx_l n A x ∧ cx_g n A y = cx_g n A x := (cx_l_sp hx).1
theorem cx_l_le {x y : List Nat} (hx : cx_L n x) (hy : cx_L n y) (hg : cx_g n A y = cx_g n A x) : cx_l n A x ≤ y.length := (cx_l_sp hx).2 y hy hg
theorem cx_l_eq {x y : List Nat} (hg : cx_g n A x = cx_g n A y) : cx_l n A x = cx_l n A y := by
  unfold cx_l
  rw [hg]
theorem cx_L_app {x y : List Nat} (hx : cx_L n x) (hy : cx_L n y) : cx_L n (x ++ y) := fun s hs => (List.mem_append.mp hs).elim (hx s) (hy s)
theorem cx_L_1 {s : Nat} (hs : s < n) : cx_L n [s] := fun r hr => by rw [List.mem_singleton.mp hr]; exact hs
theorem cx_l_app {x y : List Nat} (hx : cx_L n x) (hy : cx_L n y) : cx_l n A (x ++ y) ≤ cx_l n A x + y.length := by
  obtain ⟨z, h1, h2, h3⟩ := cx_l_w (A := A) hx
  have h := cx_l_le (A := A) (cx_L_app hx hy) (cx_L_app h1 hy) (cx_g_app h3 rfl)
  rw [List.length_append] at h
  omega
theorem cx_main (hok : cx_ok n A) : ∀ (k : Nat) (x : List Nat), cx_L n x → cx_l n A x = k → ∀ s, s < n → cx_l n A x ≤ cx_l n A (x ++ [s]) → ∀ i, 0 ≤ cx_x n A x (cx_e s) i := by
  intro k
  induction k using Nat.strongRecOn with
  | ind k ih =>
  intro x hx hk s hs hle i
  obtain ⟨y, hy, hyl, hyg⟩ := cx_l_w (A := A) hx
  have hgx : ∀ v, cx_x n A y v = cx_x n A x v := fun v => congrFun (congrArg Prod.fst hyg) v
  rcases List.eq_nil_or_concat y with rfl | ⟨y', t, rfl⟩
  · rw [← hgx]
    show 0 ≤ cx_e s i
    unfold cx_e
    split <;> omega
  rw [List.concat_eq_append] at hy hyl hyg hgx
  have hy' : cx_L n y' := fun r hr => hy r (List.mem_append_left _ hr)
  have ht : t < n := hy t (List.mem_append_right _ (List.mem_singleton.mpr rfl))
  rw [List.length_append, List.length_singleton, hk] at hyl
  have hgs : ∀ (v : List Nat) (r : Nat), r < n → cx_g n A (v ++ [r] ++ [r]) = cx_g n A v := by
    intro v r hr
    rw [List.append_assoc]
    have := cx_g_app (n := n) (A := A) (x := v) (x' := v) (y := [r] ++ [r]) (y' := []) rfl (cx_g_ss hok hr)
    rw [List.append_nil] at this
    exact this
  have hst : s ≠ t := by
    intro e
    subst e
    have h1 : cx_g n A y' = cx_g n A (x ++ [s]) := ((hgs y' s hs).symm.trans (cx_g_app hyg rfl))
    have := cx_l_le (cx_L_app hx (cx_L_1 hs)) hy' h1
    omega
  obtain ⟨m, hm⟩ := hok.2 s t hs ht hst
  obtain ⟨j, hj1, ⟨v, hv, hvg, hvl⟩, hmax⟩ : ∃ j, 1 ≤ j ∧ (∃ v, cx_L n v ∧ cx_g n A (v ++ cx_al s t j) = cx_g n A x ∧ cx_l n A v + j = k) ∧ ¬ (∃ v, cx_L n v ∧ cx_g n A (v ++ cx_al s t (j + 1)) = cx_g n A x ∧ cx_l n A v + (j + 1) = k) := by
    apply Classical.byContradiction
    intro hno
    have hall : ∀ j, 1 ≤ j → ∃ v, cx_L n v ∧ cx_g n A (v ++ cx_al s t j) = cx_g n A x ∧ cx_l n A v + j = k := by
      intro j hj
      induction j with
      | zero => omega
      | succ j ihj =>
        by_cases h0 : j = 0
        · subst h0
          refine ⟨y', hy', hyg, ?_⟩
          have h1 := cx_l_le (A := A) hy' hy' rfl
          have h2 := cx_l_app (A := A) hy' (cx_L_1 ht)
          rw [cx_l_eq hyg, hk, List.length_singleton] at h2
          omega
        · exact Classical.byContradiction fun hn => hno ⟨j, by omega, ihj (by omega), hn⟩
    obtain ⟨v, -, -, h⟩ := hall (k + 1) (by omega)
    omega
  have hal := cx_al_L hs ht
  have hc : ∀ r, r < n → cx_l n A v ≤ cx_l n A (v ++ [r]) ∨ cx_l n A (v ++ [r]) < cx_l n A v := fun r _ => by omega
  have c1 : cx_l n A v ≤ cx_l n A (v ++ [if j % 2 = 0 then t else s]) := by
    have hr : (if j % 2 = 0 then t else s) < n := by split <;> assumption
    rcases hc _ hr with h | h
    · exact h
    · exfalso
      apply hmax
      have hL' := cx_L_app hv (cx_L_1 hr)
      have e : cx_g n A (v ++ [if j % 2 = 0 then t else s] ++ cx_al s t (j + 1)) = cx_g n A x := by
        rw [cx_al, ← hvg]
        have := cx_g_app (y := cx_al s t j) (hgs v _ hr) rfl
        rw [← this]
        simp only [List.append_assoc, List.cons_append, List.nil_append]
      refine ⟨_, hL', e, ?_⟩
      have h3 := cx_l_app (A := A) hL' (hal (j + 1))
      rw [cx_l_eq e, hk, cx_al_len] at h3
      omega
  have c2 : cx_l n A v ≤ cx_l n A (v ++ [if j % 2 = 0 then s else t]) := by
    have hr : (if j % 2 = 0 then s else t) < n := by split <;> assumption
    rcases hc _ hr with h | h
    · exact h
    · exfalso
      obtain ⟨j', rfl⟩ : ∃ j', j = j' + 1 := ⟨j - 1, by omega⟩
      have e1 : (if j' % 2 = 0 then t else s) = (if (j' + 1) % 2 = 0 then s else t) := by
        by_cases hz : j' % 2 = 0
        · rw [if_pos hz, if_neg (by omega)]
        · rw [if_neg hz, if_pos (by omega)]
      have e : cx_g n A (v ++ [if (j' + 1) % 2 = 0 then s else t] ++ cx_al s t j') = cx_g n A x := by
        rw [← hvg, cx_al, e1]
        simp only [List.append_assoc, List.cons_append, List.nil_append]
      have h3 := cx_l_app (A := A) (cx_L_app hv (cx_L_1 hr)) (hal j')
      rw [cx_l_eq e, hk, cx_al_len] at h3
      omega
  have cst : cx_l n A v ≤ cx_l n A (v ++ [s]) ∧ cx_l n A v ≤ cx_l n A (v ++ [t]) := by
    by_cases hz : j % 2 = 0
    · rw [if_pos hz] at c1 c2; exact ⟨c2, c1⟩
    · rw [if_neg hz] at c1 c2; exact ⟨c1, c2⟩
  have p1 := ih (cx_l n A v) (by omega) v hv rfl s hs cst.1 i
  have p2 := ih (cx_l n A v) (by omega) v hv rfl t ht cst.2 i
  have hjm : m ≠ 0 → j < m := by
    intro hm0
    apply Classical.byContradiction
    intro hjm
    obtain ⟨p, hp1, hp2⟩ := cx_al_split s t m (j - m)
    rw [show j - m + m = j by omega] at hp2
    obtain ⟨m', rfl⟩ : ∃ m', m = m' + 1 := ⟨m - 1, by omega⟩
    have hLp : cx_L n p := fun r hr => hal j r (by rw [hp2]; exact List.mem_append_left _ hr)
    have e : cx_g n A (v ++ p ++ cx_al s t m') = cx_g n A (x ++ [s]) := by
      have e1 : cx_g n A (v ++ (p ++ cx_al t s (m' + 1))) = cx_g n A x := by
        rw [← hvg, hp2]
        exact cx_g_app rfl (cx_g_app rfl (cx_g_braid hok hs ht hst hm hm0).symm)
      have e2 := cx_g_app (y := [s]) e1 rfl
      rw [← e2, cx_al_end, ← hgs (v ++ p ++ cx_al s t m') s hs]
      simp only [List.append_assoc]
    have h4 := cx_l_app (A := A) (cx_L_app hv hLp) (hal m')
    have h5 := cx_l_app (A := A) hv hLp
    rw [cx_l_eq e, cx_al_len] at h4
    omega
  obtain ⟨ha, hb⟩ := cx_ab_pos hm hjm
  have hxv : cx_x n A x (cx_e s) = cx_x n A v (cx_x n A (cx_al s t j) (cx_e s)) := by
    rw [← cx_x_app]
    exact congrFun (congrArg Prod.fst hvg).symm (cx_e s)
  rw [hxv, cx_ab_x hok hs ht hst]
  have e3 : cx_pl (fun _ => 0) s t (cx_ab (A s t) (A t s) j).1 (cx_ab (A s t) (A t s) j).2 = fun q => (fun q => (fun _ => (0 : Int)) q + (cx_ab (A s t) (A t s) j).1 * cx_e s q) q + (cx_ab (A s t) (A t s) j).2 * cx_e t q := by
    funext q
    unfold cx_pl cx_e
    by_cases h : q = s
    · have h2 : ¬ q = t := by omega
      simp only [if_pos h, if_neg h2]; omega
    · by_cases h2 : q = t
      · simp only [if_neg h, if_pos h2]; omega
      · simp only [if_neg h, if_neg h2]; omega
  rw [e3, cx_x_lin, cx_x_lin, cx_x_zero]
  dsimp only
  have q1 := Int.mul_nonneg ha p1
  have q2 := Int.mul_nonneg hb p2
  omega
end S
