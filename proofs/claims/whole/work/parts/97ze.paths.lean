/-! R as a sum over paths. -/
/-- how many paths with a steps up -/
noncomputable def pth (n : Nat) (A : Nat → Nat → Int) : List Nat → List Nat → Nat → Int
  | [], u, a => cii (cx_l n A u = 0) (if a = 0 then 1 else 0) 0
  | s :: r, u, a => cii (dn n A u s) (pth n A r (u ++ [s]) a) (pth n A r u a + qs (pth n A r (u ++ [s])) a)
/-- (q - 1) to the m -/
def pw : Nat → Nat → Int
  | 0, k => if k = 0 then 1 else 0
  | m + 1, k => qs (pw m) k - pw m k
section S
variable {n : Nat} {A : Nat → Nat → Int}
theorem pth_eg : ∀ (r : List Nat), egl n A (pth n A r) := by
  intro r
  induction r with
  | nil =>
    intro u v hg
    funext a
    show cii (cx_l n A u = 0) _ _ = cii (cx_l n A v = 0) _ _
    rw [cx_l_eq hg]
  | cons s r ih =>
    intro u v hg
    funext a
    show cii (dn n A u s) _ _ = cii (dn n A v s) _ _
    rw [ih u v hg, ih _ _ (cx_g_ap1 [s] hg)]
    exact cii_cg (dn_g hg s) (fun _ => rfl) (fun _ => rfl)
theorem pth_0 (hok : cx_ok n A) : ∀ (r : List Nat), cx_L n r → ∀ u, cx_L n u → ∀ a, r.length < cx_l n A u + 2 * a → pth n A r u a = 0 := by
  intro r
  induction r with
  | nil =>
    intro _ u hu a h
    by_cases h0 : cx_l n A u = 0
    · show cii (cx_l n A u = 0) _ _ = 0
      rw [cii_p h0, if_neg (by intro h1; rw [h1, h0] at h; simp at h)]
    · exact cii_n h0
  | cons s r ih =>
    intro hr u hu a h
    have hs := cx_L_hd hr
    have rL := cx_L_tl hr
    rw [List.length_cons] at h
    have usL : cx_L n (u ++ [s]) := cx_L_app hu (cx_L_1 hs)
    show cii (dn n A u s) (pth n A r (u ++ [s]) a) (pth n A r u a + qs (pth n A r (u ++ [s])) a) = 0
    by_cases hd : dn n A u s
    · have := dn_1 hok hu hs hd
      rw [cii_p hd]
      exact ih rL _ usL a (by omega)
    · have up := up_1 hok hu hs hd
      rw [cii_n hd, ih rL u hu a (by omega)]
      cases a with
      | zero => rfl
      | succ a =>
        show 0 + pth n A r (u ++ [s]) a = 0
        rw [ih rL _ usL a (by omega)]
        rfl
theorem cx_sum_z (m : Nat) : cx_sum m (fun _ => 0) = 0 := by
  induction m with
  | zero => rfl
  | succ m ih => rw [cx_sum, ih]; rfl
/-- a sum one place on -/
theorem cx_sum_sh (g : Nat → Int) (T : Nat → Int) : ∀ N, cx_sum (N + 1) (fun a => qs g a * T a) = cx_sum N (fun a => g a * T (a + 1)) := by
  intro N
  induction N with
  | zero =>
    show (0 : Int) + 0 * T 0 = 0
    rw [Int.zero_mul]
    rfl
  | succ N ih =>
    rw [cx_sum, ih]
    rfl
theorem qn_s (m : Nat) (f : Nat → Int) (k : Nat) : qn m (fun k => qs f k - f k) k = qs (qn m f) k - qn m f k := by
  induction m generalizing k with
  | zero => rfl
  | succ m ih =>
    show qs (qn m (fun k => qs f k - f k)) k = qs (qs (qn m f)) k - qs (qn m f) k
    rw [qs_cg ih]
    cases k <;> rfl
theorem qs_sum (f : Nat → Nat → Int) (N k : Nat) : qs (fun k => cx_sum N (fun a => f a k)) k = cx_sum N (fun a => qs (f a) k) := by
  cases k with
  | zero => exact (cx_sum_z N).symm
  | succ k => rfl
theorem qs_mul (c : Int) (f : Nat → Int) (k : Nat) : qs (fun k => c * f k) k = c * qs f k := by
  cases k with
  | zero => exact (Int.mul_zero c).symm
  | succ k => rfl
/-- R is the sum over paths -/
theorem rwl_p (hok : cx_ok n A) (N : Nat) : ∀ (r : List Nat), cx_L n r → r.length < 2 * N → ∀ u, cx_L n u → ∀ k, rwl n A r u k = cx_sum N (fun a => pth n A r u a * qn a (pw (r.length - cx_l n A u - 2 * a)) k) := by
  intro r
  induction r with
  | nil =>
    intro _ hN u hu k
    obtain ⟨N', rfl⟩ : ∃ N', N = N' + 1 := ⟨N - 1, by simp at hN; omega⟩
    have z : ∀ a, a ≠ 0 → pth n A [] u a = 0 := fun a ha => pth_0 hok [] cx_L_nil u hu a (by show 0 < _; omega)
    have e : ∀ M, cx_sum (M + 1) (fun a => pth n A [] u a * qn a (pw (([] : List Nat).length - cx_l n A u - 2 * a)) k) = pth n A [] u 0 * pw 0 k := by
      intro M
      induction M with
      | zero =>
        show 0 + pth n A [] u 0 * pw (0 - cx_l n A u - 2 * 0) k = _
        rw [Nat.zero_sub, Nat.zero_sub, Int.zero_add]
      | succ M ih =>
        rw [cx_sum, ih, z (M + 1) (by omega), Int.zero_mul, Int.add_zero]
    rw [e]
    show cii (cx_l n A u = 0) (if k = 0 then 1 else 0) 0 = cii (cx_l n A u = 0) (if 0 = 0 then 1 else 0) 0 * (if k = 0 then 1 else 0)
    by_cases h0 : cx_l n A u = 0
    · rw [cii_p h0, cii_p h0, if_pos rfl, Int.one_mul]
    · rw [cii_n h0, cii_n h0, Int.zero_mul]
  | cons s r ih =>
    intro hr hN u hu k
    have hs := cx_L_hd hr
    have rL := cx_L_tl hr
    rw [List.length_cons] at hN ⊢
    have usL : cx_L n (u ++ [s]) := cx_L_app hu (cx_L_1 hs)
    have i1 := ih rL (by omega) u hu
    have i2 := ih rL (by omega) (u ++ [s]) usL
    by_cases hd : dn n A u s
    · have l1 := dn_1 hok hu hs hd
      have e1 : rwl n A (s :: r) u k = rwl n A r (u ++ [s]) k := cii_p hd
      rw [e1, i2]
      refine cx_sum_eq (fun a ha => ?_)
      have e2 : pth n A (s :: r) u a = pth n A r (u ++ [s]) a := cii_p hd
      rw [e2, show r.length + 1 - cx_l n A u - 2 * a = r.length - cx_l n A (u ++ [s]) - 2 * a by omega]
    · have up := up_1 hok hu hs hd
      have e1 : rwl n A (s :: r) u k = qs (rwl n A r u) k - rwl n A r u k + qs (rwl n A r (u ++ [s])) k := cii_n hd
      have e2 : ∀ a, pth n A (s :: r) u a = pth n A r u a + qs (pth n A r (u ++ [s])) a := fun a => cii_n hd
      rw [e1]
      -- the two sums
      have a1 : qs (rwl n A r u) k - rwl n A r u k = cx_sum N (fun a => pth n A r u a * qn a (pw (r.length + 1 - cx_l n A u - 2 * a)) k) := by
        rw [qs_cg i1, qs_sum, i1, Int.sub_eq_add_neg, ← cx_sum_neg, ← cx_sum_add]
        refine cx_sum_eq (fun a ha => ?_)
        rw [qs_mul, ← Int.mul_neg, ← Int.mul_add, ← Int.sub_eq_add_neg]
        by_cases hle : cx_l n A u + 2 * a ≤ r.length
        · rw [show r.length + 1 - cx_l n A u - 2 * a = (r.length - cx_l n A u - 2 * a) + 1 by omega, ← qn_s]
          rfl
        · rw [pth_0 hok r rL u hu a (by omega), Int.zero_mul, Int.zero_mul]
      have a2 : qs (rwl n A r (u ++ [s])) k = cx_sum N (fun a => qs (pth n A r (u ++ [s])) a * qn a (pw (r.length + 1 - cx_l n A u - 2 * a)) k) := by
        obtain ⟨N', rfl⟩ : ∃ N', N = N' + 1 := ⟨N - 1, by omega⟩
        rw [qs_cg i2, qs_sum, cx_sum_sh, cx_sum, qs_mul, pth_0 hok r rL _ usL N' (by omega), Int.zero_mul, Int.add_zero]
        refine cx_sum_eq (fun a ha => ?_)
        rw [qs_mul]
        show _ = pth n A r (u ++ [s]) a * qs (qn a (pw (r.length + 1 - cx_l n A u - 2 * (a + 1)))) k
        rw [show r.length + 1 - cx_l n A u - 2 * (a + 1) = r.length - cx_l n A (u ++ [s]) - 2 * a by omega]
      rw [a1, a2, ← cx_sum_add]
      refine cx_sum_eq (fun a ha => ?_)
      rw [e2, Int.add_mul]
theorem pw_0 : ∀ (m k : Nat), m < k → pw m k = 0 := by
  intro m
  induction m with
  | zero =>
    intro k hk
    show (if k = 0 then 1 else 0) = (0 : Int)
    rw [if_neg (by omega)]
  | succ m ih =>
    intro k hk
    cases k with
    | zero => omega
    | succ k =>
      show pw m k - pw m (k + 1) = 0
      rw [ih k (by omega), ih (k + 1) (by omega)]
      rfl
theorem qn_at (f : Nat → Int) : ∀ (m k : Nat), qn m f k = if k < m then 0 else f (k - m) := by
  intro m
  induction m with
  | zero =>
    intro k
    rw [if_neg (by omega)]
    rfl
  | succ m ih =>
    intro k
    cases k with
    | zero =>
      rw [if_pos (by omega)]
      rfl
    | succ k =>
      show qn m f k = _
      rw [ih k]
      by_cases h : k < m
      · rw [if_pos h, if_pos (by omega)]
      · rw [if_neg h, if_neg (by omega), show k + 1 - (m + 1) = k - m by omega]
/-- R has no power above the lengths' difference -/
theorem rwl_dg (hok : cx_ok n A) {r u : List Nat} (hr : cx_L n r) (hu : cx_L n u) {k : Nat} (hk : r.length < cx_l n A u + k) : rwl n A r u k = 0 := by
  rw [rwl_p hok (r.length + 1) r hr (by omega) u hu, ← cx_sum_z (r.length + 1)]
  refine cx_sum_eq (fun a ha => ?_)
  by_cases hle : cx_l n A u + 2 * a ≤ r.length
  · rw [qn_at]
    by_cases hka : k < a
    · rw [if_pos hka, Int.mul_zero]
    · rw [if_neg hka, pw_0 _ _ (by omega), Int.mul_zero]
  · rw [pth_0 hok r hr u hu a (by omega), Int.zero_mul]
end S
