/-! Elements and numbers of P, packed: what the reckoning in the kernel works on. -/
noncomputable def frc {α : Type} (N : Nat) (f : Nat → α) : α := Nat.rec (f 0) (fun n _ => f (Nat.succ n)) N
theorem frc_e {α : Type} (N : Nat) (f : Nat → α) : frc N f = f N := by
  cases N with
  | zero => rfl
  | succ N => rfl
def pks (h : Nat → Int) : Nat → Nat
  | 0 => 0
  | j + 1 => pks h j + (h j + 8388608).toNat * 16777216 ^ j
theorem pks_lt {h : Nat → Int} : ∀ (n : Nat), (∀ j, j < n → -8388608 ≤ h j ∧ h j < 8388608) → pks h n < 16777216 ^ n := by
  intro n
  induction n with
  | zero => exact fun _ => Nat.pow_pos (by decide)
  | succ n ih =>
    intro hb
    have h1 := ih (fun j hj => hb j (by omega))
    have h2 := hb n (by omega)
    have h3 : (h n + 8388608).toNat + 1 ≤ 16777216 := by omega
    have h4 := Nat.mul_le_mul_right (16777216 ^ n) h3
    rw [Nat.add_mul, Nat.one_mul] at h4
    rw [pks, Nat.pow_succ, Nat.mul_comm (16777216 ^ n) 16777216]
    omega
theorem pks_dg {h : Nat → Int} {s : Nat} : ∀ (n : Nat), (∀ j, j < n → -8388608 ≤ h j ∧ h j < 8388608) → s < n → pks h n / 16777216 ^ s % 16777216 = (h s + 8388608).toNat := by
  intro n
  induction n with
  | zero => exact fun _ h => absurd h (Nat.not_lt_zero _)
  | succ n ih =>
    intro hb hs1
    have hb' : ∀ j, j < n → -8388608 ≤ h j ∧ h j < 8388608 := fun j hj => hb j (by omega)
    have h1 := pks_lt n hb'
    have h2 := hb n (by omega)
    rw [pks]
    by_cases e : s = n
    · rw [e, Nat.add_mul_div_right _ _ (Nat.pow_pos (by decide)), Nat.div_eq_of_lt h1, Nat.zero_add, Nat.mod_eq_of_lt (by omega)]
    · have e1 : 16777216 ^ n = 16777216 ^ (n - s - 1) * 16777216 * 16777216 ^ s := by
        rw [← Nat.pow_succ, ← Nat.pow_add]
        congr 1
        omega
      rw [e1, ← Nat.mul_assoc, Nat.add_mul_div_right _ _ (Nat.pow_pos (by decide)), ← Nat.mul_assoc, Nat.add_mul_mod_self_right]
      exact ih hb' (by omega)
theorem pks_int {h : Nat → Int} : ∀ (n : Nat), (∀ j, j < n → -8388608 ≤ h j ∧ h j < 8388608) → ((pks h n : Nat) : Int) = cx_sum n (fun j => (h j + 8388608) * 16777216 ^ j) := by
  intro n
  induction n with
  | zero => exact fun _ => rfl
  | succ n ih =>
    intro hb
    have h2 := hb n (by omega)
    rw [pks, cx_sum, Int.natCast_add, ih (fun j hj => hb j (by omega)), Int.natCast_mul, Int.toNat_of_nonneg (by omega), Int.natCast_pow]
    rfl
theorem pks_mul {h h' : Nat → Int} {a : Nat → Int} {c : Int} {n : Nat} (hb : ∀ j, j < n → -8388608 ≤ h j ∧ h j < 8388608) (hb' : ∀ j, j < n → -8388608 ≤ h' j ∧ h' j < 8388608) (e : ∀ j, j < n → h' j = h j - c * a j) : ((pks h' n : Nat) : Int) = (pks h n : Nat) - c * cx_sum n (fun j => a j * 16777216 ^ j) := by
  rw [pks_int n hb, pks_int n hb']
  have h1 := cx_sum_lin n (fun j => (h j + 8388608) * 16777216 ^ j) (fun j => a j * 16777216 ^ j) (-c)
  have h2 : cx_sum n (fun j => (h' j + 8388608) * 16777216 ^ j) = cx_sum n (fun j => (h j + 8388608) * 16777216 ^ j + -c * (a j * 16777216 ^ j)) := by
    refine cx_sum_eq (fun j hj => ?_)
    rw [e j hj, ← Int.mul_assoc, ← Int.add_mul, Int.neg_mul]
    congr 1
    omega
  rw [h2, h1, Int.neg_mul]
  omega
def kdg (s N : Nat) : Nat := Nat.mod (Nat.shiftRight N (Nat.mul 24 s)) 16777216
def kas (s N : Nat) : Bool := Nat.ble 8388608 (kdg s N)
def kml (R : Nat × Nat) (d N : Nat) : Nat := Nat.sub (Nat.add N (Nat.mul (Nat.sub d 8388608) R.2)) (Nat.mul (Nat.sub d 8388608) R.1)
theorem kdg_e (s N : Nat) : kdg s N = N / 16777216 ^ s % 16777216 := by
  show N >>> (24 * s) % 16777216 = _
  rw [Nat.shiftRight_eq_div_pow, Nat.pow_mul]
section S
variable {n : Nat} {A : Nat → Nat → Int} {s : Nat} {x y : List Nat}
def pk (n : Nat) (A : Nat → Nat → Int) (x : List Nat) : Nat := pks (cx_h n A x) n
theorem pk_g (h : cx_g n A x = cx_g n A y) : pk n A x = pk n A y := by
  have : cx_h n A x = cx_h n A y := by
    funext j
    have e : cx_x n (cx_t A) x = cx_x n (cx_t A) y := congrArg Prod.snd h
    unfold cx_h
    rw [e]
  unfold pk
  rw [this]
theorem h_bd (hok : cx_ok n A) (hx : cx_L n x) (hl : cx_l n A x ≤ 10) {j : Nat} (hj : j < n) : -8388608 ≤ cx_h n A x j ∧ cx_h n A x j < 8388608 := by
  have h1 := cx_bd_h hok hx hj
  have h2 : (4 : Nat) ^ cx_l n A x ≤ 4 ^ 10 := Nat.pow_le_pow_right (by decide) hl
  have h3 : ((4 ^ cx_l n A x : Nat) : Int) ≤ ((4 ^ 10 : Nat) : Int) := Int.ofNat_le.mpr h2
  rw [Int.natCast_pow] at h3
  have h4 : ((4 ^ 10 : Nat) : Int) = 1048576 := by decide
  rw [h4] at h3
  have h5 : ((4 : Nat) : Int) = 4 := rfl
  rw [h5] at h3
  omega
theorem pk_dg (hok : cx_ok n A) (hx : cx_L n x) (hl : cx_l n A x ≤ 10) (sn : s < n) : kdg s (pk n A x) = (cx_h n A x s + 8388608).toNat := by
  rw [kdg_e]
  exact pks_dg n (fun j hj => h_bd hok hx hl hj) sn
theorem kas_e (hok : cx_ok n A) (hx : cx_L n x) (hl : cx_l n A x ≤ 10) (sn : s < n) : kas s (pk n A x) = true ↔ ¬ dn n A x s := by
  unfold kas dn
  rw [pk_dg hok hx hl sn, Nat.ble_eq]
  have := cx_h_sign hok hx sn
  omega
theorem pk_inj (hok : cx_ok n A) (hx : cx_L n x) (hy : cx_L n y) (lx : cx_l n A x ≤ 10) (ly : cx_l n A y ≤ 10) (h : pk n A x = pk n A y) : cx_g n A x = cx_g n A y := by
  refine cx_h_un hok hx hy (fun j hj => ?_)
  have h1 := pk_dg hok hx lx hj
  have h2 := pk_dg hok hy ly hj
  have b1 := h_bd hok hx lx hj
  have b2 := h_bd hok hy ly hj
  rw [h, h2] at h1
  omega
/-- what a mirror adds and takes -/
def kRo (n : Nat) (A : Nat → Nat → Int) (s : Nat) (R : Nat × Nat) : Prop := (R.1 : Int) - (R.2 : Int) = cx_sum n (fun j => A j s * 16777216 ^ j)
theorem pk_up (hok : cx_ok n A) (hx : cx_L n x) (hl : cx_l n A x ≤ 9) (sn : s < n) (hd : ¬ dn n A x s) {R : Nat × Nat} (hR : kRo n A s R) : kml R (kdg s (pk n A x)) (pk n A x) = pk n A (x ++ [s]) := by
  have xsL : cx_L n (x ++ [s]) := cx_L_app hx (cx_L_1 sn)
  have up := up_1 hok hx sn hd
  have hp : 0 < cx_h n A x s := by
    rcases cx_h_sign hok hx sn with h | h
    · exact h.1
    · omega
  have M := pks_mul (h := cx_h n A x) (h' := cx_h n A (x ++ [s])) (a := fun j => A j s) (c := cx_h n A x s) (n := n) (fun j hj => h_bd hok hx (by omega) hj) (fun j hj => h_bd hok xsL (by omega) hj) (fun j hj => cx_h_turn hj)
  rw [← hR, Int.mul_sub] at M
  rw [pk_dg hok hx (by omega) sn]
  show (pk n A x + ((cx_h n A x s + 8388608).toNat - 8388608) * R.2) - ((cx_h n A x s + 8388608).toNat - 8388608) * R.1 = pk n A (x ++ [s])
  have e : (((cx_h n A x s + 8388608).toNat - 8388608 : Nat) : Int) = cx_h n A x s := by omega
  rw [← e, ← Int.natCast_mul, ← Int.natCast_mul] at M
  unfold pk
  generalize ((cx_h n A x s + 8388608).toNat - 8388608) * R.1 = p at *
  generalize ((cx_h n A x s + 8388608).toNat - 8388608) * R.2 = q at *
  omega
end S
def pvi (p : Nat → Int) : Int := p 0 + p 1 * 4294967296 + p 2 * 18446744073709551616 + p 3 * 79228162514264337593543950336 + p 4 * 340282366920938463463374607431768211456
def pv (p : Nat → Int) : Nat := (pvi p).toNat
theorem pvi_nn {p : Nat → Int} (h : ∀ k, k < 5 → 0 ≤ p k) : 0 ≤ pvi p := by
  unfold pvi
  have h0 := h 0 (by decide)
  have h1 := h 1 (by decide)
  have h2 := h 2 (by decide)
  have h3 := h 3 (by decide)
  have h4 := h 4 (by decide)
  omega
theorem pv_i {p : Nat → Int} (h : ∀ k, k < 5 → 0 ≤ p k) : ((pv p : Nat) : Int) = pvi p := Int.toNat_of_nonneg (pvi_nn h)
theorem pvi_cg {p r : Nat → Int} (h : ∀ k, p k = r k) : pvi p = pvi r := by
  unfold pvi
  rw [h 0, h 1, h 2, h 3, h 4]
theorem pvi_qs {p : Nat → Int} (h : p 4 = 0) : pvi (qs p) = 4294967296 * pvi p := by
  show 0 + p 0 * 4294967296 + p 1 * 18446744073709551616 + p 2 * 79228162514264337593543950336 + p 3 * 340282366920938463463374607431768211456 = 4294967296 * (p 0 + p 1 * 4294967296 + p 2 * 18446744073709551616 + p 3 * 79228162514264337593543950336 + p 4 * 340282366920938463463374607431768211456)
  omega
theorem pvi_qn {p : Nat → Int} : ∀ (d : Nat), (∀ k, k < 5 → 5 ≤ k + d → p k = 0) → d ≤ 5 → pvi (qn d p) = 4294967296 ^ d * pvi p := by
  have low : ∀ (d k : Nat), qn d p (k + d) = p k := by
    intro d
    induction d with
    | zero => exact fun k => rfl
    | succ d ih => exact fun k => ih k
  intro d
  induction d with
  | zero =>
    intro _ _
    show pvi p = 4294967296 ^ 0 * pvi p
    rw [Int.pow_zero, Int.one_mul]
  | succ d ih =>
    intro h hd
    show pvi (qs (qn d p)) = _
    rw [pvi_qs, ih (fun k h1 h2 => h k h1 (by omega)) (by omega), Int.pow_succ, Int.mul_comm (4294967296 ^ d) 4294967296, Int.mul_assoc]
    have e : qn d p 4 = qn d p (4 - d + d) := by rw [show 4 - d + d = 4 by omega]
    rw [e, low]
    exact h _ (by omega) (by omega)
theorem pvi_add (p r : Nat → Int) : pvi (fun k => p k + r k) = pvi p + pvi r := by
  unfold pvi
  dsimp only
  omega
theorem pvi_sub (p r : Nat → Int) : pvi (fun k => p k - r k) = pvi p - pvi r := by
  unfold pvi
  dsimp only
  omega
theorem pvi_mul (c : Int) (p : Nat → Int) : pvi (fun k => c * p k) = c * pvi p := by
  unfold pvi
  simp only [Int.mul_add, Int.mul_assoc]
theorem pv_dg {p : Nat → Int} (h : ∀ k, k < 5 → 0 ≤ p k ∧ p k < 4294967296) {j : Nat} (hj : j < 5) : ((Nat.mod (Nat.shiftRight (pv p) (Nat.mul 32 j)) 4294967296 : Nat) : Int) = p j := by
  have e := pv_i (fun k hk => (h k hk).1)
  unfold pvi at e
  have h0 := h 0 (by decide)
  have h1 := h 1 (by decide)
  have h2 := h 2 (by decide)
  have h3 := h 3 (by decide)
  have h4 := h 4 (by decide)
  show ((pv p >>> (32 * j) % 4294967296 : Nat) : Int) = p j
  rw [Nat.shiftRight_eq_div_pow]
  rcases j with _ | _ | _ | _ | _ | j
  · show ((pv p / 1 % 4294967296 : Nat) : Int) = p 0
    omega
  · show ((pv p / 4294967296 % 4294967296 : Nat) : Int) = p 1
    omega
  · show ((pv p / 18446744073709551616 % 4294967296 : Nat) : Int) = p 2
    omega
  · show ((pv p / 79228162514264337593543950336 % 4294967296 : Nat) : Int) = p 3
    omega
  · show ((pv p / 340282366920938463463374607431768211456 % 4294967296 : Nat) : Int) = p 4
    omega
  · omega
