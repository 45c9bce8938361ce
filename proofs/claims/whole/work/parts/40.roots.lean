/-! Mirrors: rows, what mirrors make of them, words; signs of what words make of start roots. -/
def cx_sum : Nat → (Nat → Int) → Int
  | 0, _ => 0
  | n + 1, f => cx_sum n f + f n
/-- mirror s turns a row -/
def cx_a (n : Nat) (A : Nat → Nat → Int) (s : Nat) (v : Nat → Int) : Nat → Int := fun k => if k = s then v k - cx_sum n (fun j => A s j * v j) else v k
/-- a word, from its last letter to its first -/
def cx_x (n : Nat) (A : Nat → Nat → Int) : List Nat → (Nat → Int) → Nat → Int
  | [], v => v
  | s :: x, v => cx_a n A s (cx_x n A x v)
def cx_t (A : Nat → Nat → Int) : Nat → Nat → Int := fun i j => A j i
/-- an element: what the word makes of rows by the numbers, and by the numbers turned over -/
def cx_g (n : Nat) (A : Nat → Nat → Int) (x : List Nat) : ((Nat → Int) → Nat → Int) × ((Nat → Int) → Nat → Int) := (cx_x n A x, cx_x n (cx_t A) x)
def cx_L (n : Nat) (x : List Nat) : Prop := ∀ s ∈ x, s < n
def cx_e (s : Nat) : Nat → Int := fun k => if k = s then 1 else 0
/-- the pairs of numbers that there are; m: turns (0: never) -/
def cx_pr (a b : Int) (m : Nat) : Prop := (m = 2 ∧ a = 0 ∧ b = 0) ∨ (m = 3 ∧ a = -1 ∧ b = -1) ∨ (m = 4 ∧ ((a = -2 ∧ b = -1) ∨ (a = -1 ∧ b = -2))) ∨ (m = 6 ∧ ((a = -3 ∧ b = -1) ∨ (a = -1 ∧ b = -3))) ∨ (m = 0 ∧ a = -2 ∧ b = -2)
def cx_ok (n : Nat) (A : Nat → Nat → Int) : Prop := (∀ i, i < n → A i i = 2) ∧ ∀ i j, i < n → j < n → i ≠ j → ∃ m, cx_pr (A i j) (A j i) m
theorem cx_pr_t {a b : Int} {m : Nat} (h : cx_pr a b m) : cx_pr b a m := by
  unfold cx_pr at *
  omega
theorem cx_ok_t {n : Nat} {A : Nat → Nat → Int} (h : cx_ok n A) : cx_ok n (cx_t A) :=
  ⟨h.1, fun i j hi hj hij => by
    obtain ⟨m, hm⟩ := h.2 i j hi hj hij
    exact ⟨m, cx_pr_t hm⟩⟩
theorem cx_sum_eq {n : Nat} {f g : Nat → Int} (h : ∀ j, j < n → f j = g j) : cx_sum n f = cx_sum n g := by
  induction n with
  | zero => rfl
  | succ n ih => rw [cx_sum, cx_sum, ih (fun j hj => h j (by omega)), h n (by omega)]
theorem cx_sum_lin (n : Nat) (f g : Nat → Int) (c : Int) : cx_sum n (fun j => f j + c * g j) = cx_sum n f + c * cx_sum n g := by
  induction n with
  | zero => simp [cx_sum]
  | succ n ih => simp only [cx_sum, ih, Int.mul_add]; omega
theorem cx_a_lin (n : Nat) (A : Nat → Nat → Int) (s : Nat) (u v : Nat → Int) (c : Int) : cx_a n A s (fun k => u k + c * v k) = fun k => cx_a n A s u k + c * cx_a n A s v k := by
  funext k
  unfold cx_a
  by_cases hk : k = s
  · simp only [if_pos hk]
    have e : cx_sum n (fun j => A s j * (u j + c * v j)) = cx_sum n (fun j => A s j * u j) + c * cx_sum n (fun j => A s j * v j) := by
      rw [← cx_sum_lin]
      exact cx_sum_eq (fun j _ => by rw [Int.mul_add, Int.mul_left_comm])
    rw [e, Int.mul_sub]
    omega
  · simp only [if_neg hk]
theorem cx_x_lin (n : Nat) (A : Nat → Nat → Int) (x : List Nat) (u v : Nat → Int) (c : Int) : cx_x n A x (fun k => u k + c * v k) = fun k => cx_x n A x u k + c * cx_x n A x v k := by
  induction x with
  | nil => rfl
  | cons s x ih => rw [cx_x, ih, cx_a_lin]; rfl
theorem cx_x_app (n : Nat) (A : Nat → Nat → Int) (x y : List Nat) (v : Nat → Int) : cx_x n A (x ++ y) v = cx_x n A x (cx_x n A y v) := by
  induction x with
  | nil => rfl
  | cons s x ih => rw [List.cons_append, cx_x, ih]; rfl
theorem cx_x_zero (n : Nat) (A : Nat → Nat → Int) (x : List Nat) : cx_x n A x (fun _ => 0) = fun _ => 0 := by
  have h := cx_x_lin n A x (fun _ => 0) (fun _ => 0) (-1)
  simp only [Int.mul_zero, Int.add_zero] at h
  funext k
  have h2 := congrFun h k
  omega
section S
variable {n : Nat} {A : Nat → Nat → Int}
theorem cx_g_app {x x' y y' : List Nat} (h : cx_g n A x = cx_g n A x') (h' : cx_g n A y = cx_g n A y') : cx_g n A (x ++ y) = cx_g n A (x' ++ y') := by
  have a1 := congrArg Prod.fst h
  have a2 := congrArg Prod.snd h
  have b1 := congrArg Prod.fst h'
  have b2 := congrArg Prod.snd h'
  unfold cx_g at *
  dsimp only at a1 a2 b1 b2
  refine Prod.ext ?_ ?_
  · funext v
    show cx_x n A (x ++ y) v = cx_x n A (x' ++ y') v
    rw [cx_x_app, cx_x_app, a1, b1]
  · funext v
    show cx_x n (cx_t A) (x ++ y) v = cx_x n (cx_t A) (x' ++ y') v
    rw [cx_x_app, cx_x_app, a2, b2]
theorem cx_g_of {x y : List Nat} (h1 : ∀ v, cx_x n A x v = cx_x n A y v) (h2 : ∀ v, cx_x n (cx_t A) x v = cx_x n (cx_t A) y v) : cx_g n A x = cx_g n A y :=
  Prod.ext (funext h1) (funext h2)
/-- a row with more at s and at t -/
def cx_pl (v : Nat → Int) (s t : Nat) (a b : Int) : Nat → Int := fun k => if k = s then v k + a else if k = t then v k + b else v k
theorem cx_sum_pl (f v : Nat → Int) (s t : Nat) (a b : Int) (hst : s ≠ t) (n : Nat) : cx_sum n (fun j => f j * cx_pl v s t a b j) = cx_sum n (fun j => f j * v j) + (if s < n then f s * a else 0) + (if t < n then f t * b else 0) := by
  induction n with
  | zero => simp [cx_sum]
  | succ n ih =>
    simp only [cx_sum, ih]
    unfold cx_pl
    by_cases h1 : n = s
    · have h2 : ¬ t = n := by omega
      have e1 : (t < n + 1) = (t < n) := by apply propext; omega
      subst h1
      simp only [if_pos rfl, e1, Int.mul_add, Nat.lt_irrefl, if_false, Nat.lt_succ_self, if_true]
      omega
    · by_cases h2 : n = t
      · have e1 : (s < n + 1) = (s < n) := by apply propext; omega
        subst h2
        simp only [if_neg h1, if_pos rfl, e1, Int.mul_add, Nat.lt_irrefl, if_false, Nat.lt_succ_self, if_true]
        omega
      · have e1 : (s < n + 1) = (s < n) := by apply propext; omega
        have e2 : (t < n + 1) = (t < n) := by apply propext; omega
        simp only [if_neg h1, if_neg h2, e1, e2]
        omega
theorem cx_pl_s {v : Nat → Int} {s t : Nat} (hA : A s s = 2) (hs : s < n) (ht : t < n) (hst : s ≠ t) (a b : Int) : cx_a n A s (cx_pl v s t a b) = cx_pl v s t (-a - cx_sum n (fun j => A s j * v j) - A s t * b) b := by
  funext k
  unfold cx_a
  rw [cx_sum_pl _ _ _ _ _ _ hst, if_pos hs, if_pos ht, hA]
  unfold cx_pl
  by_cases hk : k = s
  · simp only [if_pos hk]; omega
  · simp only [if_neg hk]
theorem cx_pl_t {v : Nat → Int} {s t : Nat} (hA : A t t = 2) (hs : s < n) (ht : t < n) (hst : s ≠ t) (a b : Int) : cx_a n A t (cx_pl v s t a b) = cx_pl v s t a (-b - cx_sum n (fun j => A t j * v j) - A t s * a) := by
  funext k
  unfold cx_a
  rw [cx_sum_pl _ _ _ _ _ _ hst, if_pos hs, if_pos ht, hA]
  unfold cx_pl
  by_cases hk : k = t
  · have h2 : ¬ k = s := by omega
    simp only [if_pos hk, if_neg h2]; omega
  · simp only [if_neg hk]
theorem cx_pl_0 (v : Nat → Int) (s t : Nat) : cx_pl v s t 0 0 = v := by
  funext k
  unfold cx_pl
  split
  · omega
  · split <;> omega
/-- s, t by turns, t last -/
def cx_al (s t : Nat) : Nat → List Nat
  | 0 => []
  | k + 1 => (if k % 2 = 0 then t else s) :: cx_al s t k
theorem cx_al_len (s t k : Nat) : (cx_al s t k).length = k := by
  induction k with
  | zero => rfl
  | succ k ih => rw [cx_al, List.length_cons, ih]
theorem cx_al_L {s t : Nat} (hs : s < n) (ht : t < n) (k : Nat) : cx_L n (cx_al s t k) := by
  induction k with
  | zero => intro r hr; cases hr
  | succ k ih =>
    intro r hr
    rw [cx_al] at hr
    rcases List.mem_cons.mp hr with rfl | h
    · split <;> assumption
    · exact ih r h
theorem cx_al_end (s t k : Nat) : cx_al s t (k + 1) = cx_al t s k ++ [t] := by
  induction k generalizing s t with
  | zero => rfl
  | succ k ih =>
    rw [cx_al, ih s t, cx_al, List.cons_append]
    congr 1
    by_cases h : k % 2 = 0
    · rw [if_pos h, if_neg (by omega)]
    · rw [if_neg h, if_pos (by omega)]
theorem cx_al_split (s t m j : Nat) : ∃ p, p.length = j ∧ cx_al s t (j + m) = p ++ cx_al s t m := by
  induction j with
  | zero => exact ⟨[], rfl, by rw [Nat.zero_add]; rfl⟩
  | succ j ih =>
    obtain ⟨p, h1, h2⟩ := ih
    refine ⟨(if (j + m) % 2 = 0 then t else s) :: p, by rw [List.length_cons, h1], ?_⟩
    rw [show j + 1 + m = (j + m) + 1 by omega, cx_al, h2]
    rfl
end S
