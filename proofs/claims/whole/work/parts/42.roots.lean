/-! What follows: longer or shorter by one, equal elements, words back, letters exchanged. -/
section S
variable {n : Nat} {A : Nat → Nat → Int}
theorem cx_g_tt : cx_g n (cx_t A) = fun x => ((cx_g n A x).2, (cx_g n A x).1) := rfl
theorem cx_g_t {x y : List Nat} : cx_g n (cx_t A) x = cx_g n (cx_t A) y ↔ cx_g n A x = cx_g n A y := by
  constructor
  · intro h
    exact Prod.ext (congrArg Prod.snd h) (congrArg Prod.fst h)
  · intro h
    exact Prod.ext (congrArg Prod.snd h) (congrArg Prod.fst h)
theorem cx_l_t (x : List Nat) : cx_l n (cx_t A) x = cx_l n A x := by
  unfold cx_l
  congr 1
  funext k
  have e : ∀ y, (cx_g n (cx_t A) y = cx_g n (cx_t A) x) = (cx_g n A y = cx_g n A x) := fun y => propext cx_g_t
  simp only [e]
theorem cx_g_ap1 {x : List Nat} (y : List Nat) {x' : List Nat} (h : cx_g n A x = cx_g n A x') : cx_g n A (x ++ y) = cx_g n A (x' ++ y) := cx_g_app h rfl
theorem cx_g_ap2 (x : List Nat) {y y' : List Nat} (h : cx_g n A y = cx_g n A y') : cx_g n A (x ++ y) = cx_g n A (x ++ y') := cx_g_app rfl h
theorem cx_g_cons (s : Nat) {y y' : List Nat} (h : cx_g n A y = cx_g n A y') : cx_g n A (s :: y) = cx_g n A (s :: y') := cx_g_ap2 [s] h
theorem cx_L_cons {s : Nat} {x : List Nat} (hs : s < n) (hx : cx_L n x) : cx_L n (s :: x) := fun r hr => (List.mem_cons.mp hr).elim (fun e => by rw [e]; exact hs) (hx r)
theorem cx_L_hd {s : Nat} {x : List Nat} (h : cx_L n (s :: x)) : s < n := h s List.mem_cons_self
theorem cx_L_tl {s : Nat} {x : List Nat} (h : cx_L n (s :: x)) : cx_L n x := fun r hr => h r (List.mem_cons_of_mem _ hr)
theorem cx_L_rev {x : List Nat} (h : cx_L n x) : cx_L n x.reverse := fun r hr => h r (List.mem_reverse.mp hr)
theorem cx_L_nil : cx_L n [] := fun r hr => by cases hr
theorem cx_L_l {x y : List Nat} (h : cx_L n (x ++ y)) : cx_L n x := fun r hr => h r (List.mem_append_left _ hr)
theorem cx_L_r {x y : List Nat} (h : cx_L n (x ++ y)) : cx_L n y := fun r hr => h r (List.mem_append_right _ hr)
theorem cx_L_er {x : List Nat} (h : cx_L n x) (i : Nat) : cx_L n (x.eraseIdx i) := fun r hr => h r (List.mem_of_mem_eraseIdx hr)
theorem cx_g_sc (hok : cx_ok n A) {s : Nat} (hs : s < n) (x : List Nat) : cx_g n A (s :: s :: x) = cx_g n A x := cx_g_ap1 (x := [s, s]) (x' := []) x (cx_g_ss hok hs)
theorem cx_g_sr (hok : cx_ok n A) {s : Nat} (hs : s < n) (x : List Nat) : cx_g n A (x ++ [s] ++ [s]) = cx_g n A x := by
  have h := cx_g_ap2 (n := n) (A := A) x (cx_g_ss hok hs)
  rw [List.append_nil] at h
  rw [← h, List.append_assoc]
  rfl
theorem cx_g_inv (hok : cx_ok n A) {x : List Nat} (hx : cx_L n x) : cx_g n A (x ++ x.reverse) = cx_g n A [] := by
  induction x with
  | nil => rfl
  | cons s x ih =>
    rw [List.reverse_cons, List.cons_append, ← List.append_assoc]
    have h1 := cx_g_ap1 (n := n) (A := A) [s] (ih (cx_L_tl hx))
    have h2 := cx_g_cons (n := n) (A := A) s h1
    rw [h2]
    exact cx_g_ss hok (cx_L_hd hx)
theorem cx_g_vni (hok : cx_ok n A) {x : List Nat} (hx : cx_L n x) : cx_g n A (x.reverse ++ x) = cx_g n A [] := by
  have h := cx_g_inv hok (cx_L_rev hx)
  rw [List.reverse_reverse] at h
  exact h
theorem cx_g_rev (hok : cx_ok n A) {x y : List Nat} (hx : cx_L n x) (hy : cx_L n y) (h : cx_g n A x = cx_g n A y) : cx_g n A x.reverse = cx_g n A y.reverse := by
  have h1 : cx_g n A (x.reverse ++ (y ++ y.reverse)) = cx_g n A x.reverse := by
    have := cx_g_ap2 (n := n) (A := A) x.reverse (cx_g_inv hok hy)
    rw [List.append_nil] at this
    exact this
  have h2 : cx_g n A (x.reverse ++ x ++ y.reverse) = cx_g n A y.reverse := cx_g_ap1 (x' := []) _ (cx_g_vni hok hx)
  rw [← h1, ← h2, List.append_assoc]
  exact cx_g_ap2 _ (cx_g_ap1 _ h.symm)
/-- back on the other side -/
theorem cx_g_mv (hok : cx_ok n A) {x y z : List Nat} (hx : cx_L n x) (h : cx_g n A (x ++ y) = cx_g n A z) : cx_g n A y = cx_g n A (x.reverse ++ z) := by
  rw [cx_g_ap2 x.reverse h.symm, ← List.append_assoc, cx_g_ap1 y (cx_g_vni hok hx)]
  rfl
theorem cx_g_vm (hok : cx_ok n A) {x y z : List Nat} (hy : cx_L n y) (h : cx_g n A (x ++ y) = cx_g n A z) : cx_g n A x = cx_g n A (z ++ y.reverse) := by
  rw [cx_g_ap1 y.reverse h.symm, List.append_assoc, cx_g_ap2 x (cx_g_inv hok hy), List.append_nil]
theorem cx_l_rev (hok : cx_ok n A) {x : List Nat} (hx : cx_L n x) : cx_l n A x.reverse = cx_l n A x := by
  have key : ∀ x, cx_L n x → cx_l n A x.reverse ≤ cx_l n A x := by
    intro x hx
    obtain ⟨y, h1, h2, h3⟩ := cx_l_w (A := A) hx
    have := cx_l_le (cx_L_rev hx) (cx_L_rev h1) (cx_g_rev hok h1 hx h3)
    rw [List.length_reverse] at this
    omega
  have h1 := key x hx
  have h2 := key _ (cx_L_rev hx)
  rw [List.reverse_reverse] at h2
  omega
theorem cx_x_g {x y : List Nat} (h : cx_g n A x = cx_g n A y) (v : Nat → Int) : cx_x n A x v = cx_x n A y v := congrFun (congrArg Prod.fst h) v
theorem cx_x_inv (hok : cx_ok n A) {x : List Nat} (hx : cx_L n x) (v : Nat → Int) : cx_x n A x.reverse (cx_x n A x v) = v := by
  rw [← cx_x_app]
  exact cx_x_g (cx_g_vni hok hx) v
theorem cx_x_neg (n : Nat) (A : Nat → Nat → Int) (x : List Nat) (v : Nat → Int) (i : Nat) : cx_x n A x (fun k => - v k) i = - cx_x n A x v i := by
  have h := cx_x_lin n A x (fun _ => 0) v (-1)
  rw [cx_x_zero] at h
  have e : (fun k => (fun _ => (0 : Int)) k + -1 * v k) = fun k => - v k := by
    funext k
    dsimp only
    omega
  rw [e] at h
  rw [h]
  dsimp only
  omega
theorem cx_a_es (hok : cx_ok n A) {s : Nat} (hs : s < n) : cx_a n A s (cx_e s) = fun k => - cx_e s k := by
  rw [cx_a_e, cx_sum_e, if_pos hs, hok.1 s hs]
  funext k
  omega
theorem cx_x_end (hok : cx_ok n A) {s : Nat} (hs : s < n) (x : List Nat) (i : Nat) : cx_x n A (x ++ [s]) (cx_e s) i = - cx_x n A x (cx_e s) i := by
  rw [cx_x_app]
  show cx_x n A x (cx_a n A s (cx_e s)) i = _
  rw [cx_a_es hok hs, cx_x_neg]
theorem cx_x_ne (hok : cx_ok n A) {x : List Nat} (hx : cx_L n x) (s : Nat) : ∃ i, cx_x n A x (cx_e s) i ≠ 0 := by
  apply Classical.byContradiction
  intro h
  have h1 : cx_x n A x (cx_e s) = fun _ => 0 := by
    funext i
    exact Classical.byContradiction fun hi => h ⟨i, hi⟩
  have h2 := cx_x_inv hok hx (cx_e s)
  rw [h1, cx_x_zero] at h2
  have h3 := congrFun h2 s
  unfold cx_e at h3
  rw [if_pos rfl] at h3
  exact absurd h3 (by decide)
/-- s doesn't stand down: longer by one, all numbers 0 or more; or it does -/
theorem cx_step (hok : cx_ok n A) {x : List Nat} (hx : cx_L n x) {s : Nat} (hs : s < n) : (cx_l n A (x ++ [s]) = cx_l n A x + 1 ∧ ∀ i, 0 ≤ cx_x n A x (cx_e s) i) ∨ (cx_l n A (x ++ [s]) + 1 = cx_l n A x ∧ ∀ i, cx_x n A x (cx_e s) i ≤ 0) := by
  have hx' := cx_L_app hx (cx_L_1 hs)
  have e1 := cx_l_eq (cx_g_sr hok hs x)
  have h1 := cx_l_app (A := A) hx (cx_L_1 hs)
  have h2 := cx_l_app (A := A) hx' (cx_L_1 hs)
  rw [e1, List.length_singleton] at h2
  rw [List.length_singleton] at h1
  have p1 := cx_main hok _ x hx rfl s hs
  have p2 := cx_main hok _ _ hx' rfl s hs
  rw [e1] at p2
  have hne := cx_x_ne hok hx s
  by_cases ha : cx_l n A x ≤ cx_l n A (x ++ [s])
  · by_cases hb : cx_l n A (x ++ [s]) ≤ cx_l n A x
    · exfalso
      obtain ⟨i, hi⟩ := hne
      have q1 := p1 ha i
      have q2 := p2 hb i
      rw [cx_x_end hok hs] at q2
      omega
    · exact .inl ⟨by omega, p1 ha⟩
  · refine .inr ⟨by omega, fun i => ?_⟩
    have q2 := p2 (by omega) i
    rw [cx_x_end hok hs] at q2
    omega
theorem cx_dn (hok : cx_ok n A) {x : List Nat} (hx : cx_L n x) {s : Nat} (hs : s < n) : (∃ i, cx_x n A x (cx_e s) i < 0) ↔ cx_l n A (x ++ [s]) < cx_l n A x := by
  rcases cx_step hok hx hs with ⟨h1, h2⟩ | ⟨h1, h2⟩
  · constructor
    · rintro ⟨i, hi⟩
      have := h2 i
      omega
    · intro h
      omega
  · constructor
    · intro _
      omega
    · intro _
      obtain ⟨i, hi⟩ := cx_x_ne hok hx s
      have := h2 i
      exact ⟨i, by omega⟩
theorem cx_l_nil : cx_l n A [] = 0 := Nat.le_zero.mp (cx_l_le cx_L_nil cx_L_nil rfl)
theorem cx_l_0 {x : List Nat} (hx : cx_L n x) (h : cx_l n A x = 0) : cx_g n A x = cx_g n A [] := by
  obtain ⟨y, h1, h2, h3⟩ := cx_l_w (A := A) hx
  rw [h] at h2
  rw [List.length_eq_zero_iff.mp h2] at h3
  exact h3.symm
/-- an element other than 0 has a mirror down on the right -/
theorem cx_ex_dn (hok : cx_ok n A) {x : List Nat} (hx : cx_L n x) (h : cx_l n A x ≠ 0) : ∃ s, s < n ∧ cx_l n A (x ++ [s]) < cx_l n A x := by
  obtain ⟨y, h1, h2, h3⟩ := cx_l_w (A := A) hx
  rcases List.eq_nil_or_concat y with rfl | ⟨y', t, rfl⟩
  · exact absurd h2.symm h
  rw [List.concat_eq_append] at h1 h2 h3
  have ht : t < n := h1 t (List.mem_append_right _ (List.mem_singleton.mpr rfl))
  refine ⟨t, ht, ?_⟩
  have e : cx_g n A y' = cx_g n A (x ++ [t]) := (cx_g_sr hok ht y').symm.trans (cx_g_ap1 [t] h3)
  have := cx_l_le (cx_L_app hx (cx_L_1 ht)) (cx_L_l h1) e
  rw [List.length_append, List.length_singleton] at h2
  omega
theorem cx_one (hok : cx_ok n A) {x : List Nat} (hx : cx_L n x) (h : ∀ s, s < n → ∀ i, 0 ≤ cx_x n A x (cx_e s) i) : cx_g n A x = cx_g n A [] := by
  apply cx_l_0 hx
  apply Classical.byContradiction
  intro h0
  obtain ⟨s, hs, hd⟩ := cx_ex_dn hok hx h0
  obtain ⟨i, hi⟩ := (cx_dn hok hx hs).mpr hd
  have := h s hs i
  omega
/-- start roots turned alike: one element -/
theorem cx_faith (hok : cx_ok n A) {x y : List Nat} (hx : cx_L n x) (hy : cx_L n y) (h : ∀ s, s < n → cx_x n A x (cx_e s) = cx_x n A y (cx_e s)) : cx_g n A x = cx_g n A y := by
  have h1 : cx_g n A (y.reverse ++ x) = cx_g n A [] := by
    refine cx_one hok (cx_L_app (cx_L_rev hy) hx) (fun s hs i => ?_)
    rw [cx_x_app, h s hs, cx_x_inv hok hy]
    unfold cx_e
    split <;> omega
  have h2 := cx_g_mv hok (cx_L_rev hy) h1
  rw [List.reverse_reverse, List.append_nil] at h2
  exact h2
/-- a mirror turns a row with no number below 0 below: it stood at that mirror alone -/
theorem cx_x_er (hok : cx_ok n A) {x : List Nat} (hx : cx_L n x) {s r : Nat} (hs : s < n) (hr : r < n) (h1 : ∀ i, 0 ≤ cx_x n A x (cx_e s) i) (h2 : ∀ i, cx_x n A (r :: x) (cx_e s) i ≤ 0) : cx_x n A x (cx_e s) = cx_e r := by
  have h3 : ∀ i, i ≠ r → cx_x n A x (cx_e s) i = 0 := by
    intro i hi
    have a := h1 i
    have b := h2 i
    rw [cx_x] at b
    unfold cx_a at b
    rw [if_neg hi] at b
    omega
  have h4 : cx_x n A x (cx_e s) = fun k => (fun _ => (0 : Int)) k + cx_x n A x (cx_e s) r * cx_e r k := by
    funext k
    unfold cx_e
    by_cases hk : k = r
    · subst hk
      rw [if_pos rfl]
      dsimp only
      omega
    · have := h3 k hk
      unfold cx_e at this
      rw [if_neg hk, this]
      dsimp only
      omega
  have h5 := cx_x_inv hok hx (cx_e s)
  rw [h4, cx_x_lin, cx_x_zero] at h5
  have h6 := congrFun h5 s
  dsimp only at h6
  have hc := h1 r
  have e1 : cx_e s s = 1 := by unfold cx_e; rw [if_pos rfl]
  rw [e1, Int.zero_add] at h6
  have h7 : cx_x n A x (cx_e s) r = 1 := by
    have hd : cx_x n A x (cx_e s) r ∣ 1 := ⟨_, h6.symm⟩
    have := Int.le_of_dvd (by decide) hd
    have h0 : cx_x n A x (cx_e s) r ≠ 0 := by
      intro h0
      rw [h0, Int.zero_mul] at h6
      exact absurd h6 (by decide)
    omega
  rw [h4, h7]
  funext k
  dsimp only
  omega
/-- x makes start root r of start root s: then x, s is r, x -/
theorem cx_conj (hok : cx_ok n A) {x : List Nat} (hx : cx_L n x) {s r : Nat} (hs : s < n) (hr : r < n) (h : cx_x n A x (cx_e s) = cx_e r) : cx_g n A (x ++ [s]) = cx_g n A (r :: x) := by
  have hxr := cx_L_rev hx
  have hb : cx_x n A x.reverse (cx_e r) = cx_e s := by rw [← h, cx_x_inv hok hx]
  have hz : ∀ v, ∃ c : Int, cx_x n A (x ++ ([s] ++ (x.reverse ++ [r]))) v = (fun k => v k + c * cx_e r k) ∧ (v = cx_e r → c = 0) := by
    intro v
    have e1 : cx_x n A [r] v = fun k => v k + (-(cx_sum n (fun j => A r j * v j))) * cx_e r k := cx_a_e r v
    have e2 : ∀ u, cx_x n A [s] u = fun k => u k + (-(cx_sum n (fun j => A s j * u j))) * cx_e s k := cx_a_e s
    refine ⟨(-(cx_sum n (fun j => A r j * v j))) + (-(cx_sum n (fun j => A s j * cx_x n A (x.reverse ++ [r]) v j))), ?_, ?_⟩
    · rw [cx_x_app, cx_x_app, e2, cx_x_lin, h, cx_x_app n A x.reverse [r] v]
      have e4 : cx_x n A x (cx_x n A x.reverse (cx_x n A [r] v)) = cx_x n A [r] v := by
        have := cx_x_inv hok hxr (cx_x n A [r] v)
        rw [List.reverse_reverse] at this
        exact this
      rw [e4, e1]
      funext k
      dsimp only
      rw [Int.add_mul]
      omega
    · intro hv
      subst hv
      rw [cx_sum_e, if_pos hr, hok.1 r hr, cx_x_app]
      have e5 : cx_x n A [r] (cx_e r) = fun k => - cx_e r k := cx_a_es hok hr
      rw [e5]
      have e6 : cx_x n A x.reverse (fun k => - cx_e r k) = fun k => - cx_e s k := by
        funext k
        rw [cx_x_neg, hb]
      rw [e6]
      have e7 : cx_sum n (fun j => A s j * - cx_e s j) = -2 := by
        have := cx_sum_lin n (fun _ => 0) (fun j => A s j * cx_e s j) (-1)
        rw [cx_sum_e, if_pos hs, hok.1 s hs] at this
        have e8 : cx_sum n (fun _ => 0) = 0 := by
          have := cx_sum_0 n (fun _ => 0)
          simpa using this
        rw [e8] at this
        rw [← cx_sum_eq (f := fun j => 0 + -1 * (A s j * cx_e s j)) (fun j _ => by rw [Int.mul_neg]; omega), this]
        decide
      rw [e7]
      decide
  have hL : cx_L n (x ++ ([s] ++ (x.reverse ++ [r]))) := cx_L_app hx (cx_L_app (cx_L_1 hs) (cx_L_app hxr (cx_L_1 hr)))
  have hr1 : cx_x n A (x ++ ([s] ++ (x.reverse ++ [r]))) (cx_e r) = cx_e r := by
    obtain ⟨c, h1, h2⟩ := hz (cx_e r)
    rw [h1, h2 rfl]
    funext k
    omega
  have hrb := cx_x_inv hok hL (cx_e r)
  rw [hr1] at hrb
  have hone : cx_g n A (x ++ ([s] ++ (x.reverse ++ [r]))) = cx_g n A [] := by
    refine cx_one hok hL (fun t ht i => ?_)
    obtain ⟨c, h1, h2⟩ := hz (cx_e t)
    have hi0 : ∀ k, 0 ≤ cx_e t k := fun k => by unfold cx_e; split <;> omega
    by_cases htr : t = r
    · subst htr
      rw [hr1]
      exact hi0 i
    · have e9 := cx_x_inv hok hL (cx_e t)
      rw [h1, cx_x_lin, hrb] at e9
      have s1 := cx_step hok hL ht
      have s2 := cx_step hok (cx_L_rev hL) ht
      have v1 := congrFun e9 t
      have v2 := congrFun e9 r
      have t1 : cx_e t t = 1 := by unfold cx_e; rw [if_pos rfl]
      have t2 : cx_e r t = 0 := by unfold cx_e; rw [if_neg htr]
      have t3 : cx_e t r = 0 := by unfold cx_e; rw [if_neg (fun h => htr h.symm)]
      have t4 : cx_e r r = 1 := by unfold cx_e; rw [if_pos rfl]
      rw [t1, t2] at v1
      rw [t3, t4] at v2
      rw [h1] at s1
      have q1 : 0 ≤ c := by
        rcases s1 with ⟨-, s1⟩ | ⟨-, s1⟩
        · have := s1 r
          dsimp only at this
          rw [t3, t4] at this
          omega
        · have := s1 t
          dsimp only at this
          rw [t1, t2] at this
          omega
      rw [h1]
      dsimp only
      have := hi0 i
      have h0r : 0 ≤ cx_e r i := by unfold cx_e; split <;> omega
      have := Int.mul_nonneg q1 h0r
      omega
  have h8 : cx_g n A ((x ++ [s]) ++ (x.reverse ++ [r])) = cx_g n A [] := by
    rw [← hone, List.append_assoc]
  have h9 := cx_g_vm hok (cx_L_app hxr (cx_L_1 hr)) h8
  rw [h9, List.nil_append, List.reverse_append, List.reverse_reverse]
  rfl
/-- EXCHANGE: of a word whose element has s down on the right a letter can be left out -/
theorem cx_exch (hok : cx_ok n A) {s : Nat} (hs : s < n) : ∀ {x : List Nat}, cx_L n x → cx_l n A (x ++ [s]) < cx_l n A x → ∃ i, i < x.length ∧ cx_g n A (x ++ [s]) = cx_g n A (x.eraseIdx i) := by
  intro x
  induction x with
  | nil =>
    intro _ h
    rw [cx_l_nil] at h
    omega
  | cons r x ih =>
    intro hx hd
    have hx' := cx_L_tl hx
    have hr := cx_L_hd hx
    by_cases hc : cx_l n A (x ++ [s]) < cx_l n A x
    · obtain ⟨i, hi, hg⟩ := ih hx' hc
      exact ⟨i + 1, by rw [List.length_cons]; omega, cx_g_cons r hg⟩
    · refine ⟨0, by rw [List.length_cons]; omega, ?_⟩
      have h1 : ∀ i, 0 ≤ cx_x n A x (cx_e s) i := by
        rcases cx_step hok hx' hs with ⟨-, h⟩ | ⟨h, -⟩
        · exact h
        · omega
      have h2 : ∀ i, cx_x n A (r :: x) (cx_e s) i ≤ 0 := by
        rcases cx_step hok hx hs with ⟨h, -⟩ | ⟨-, h⟩
        · omega
        · exact h
      have h3 := cx_conj hok hx' hs hr (cx_x_er hok hx' hs hr h1 h2)
      show cx_g n A (r :: (x ++ [s])) = cx_g n A x
      rw [cx_g_cons r h3]
      exact cx_g_sc hok hr x
end S
