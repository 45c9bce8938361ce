/-! R: its rule from the right and from the left, and that it belongs to the element alone. -/
noncomputable def cii (P : Prop) (a b : Int) : Int := @ite Int P (Classical.propDecidable P) a b
theorem cii_p {P : Prop} {a b : Int} (h : P) : cii P a b = a := if_pos h
theorem cii_n {P : Prop} {a b : Int} (h : ¬ P) : cii P a b = b := if_neg h
/-- q times -/
def qs (f : Nat → Int) : Nat → Int
  | 0 => 0
  | k + 1 => f k
theorem qs_cg {f g : Nat → Int} (h : ∀ k, f k = g k) (k : Nat) : qs f k = qs g k := by
  cases k with
  | zero => rfl
  | succ k => exact h k
theorem qs_add (f g : Nat → Int) (k : Nat) : qs (fun k => f k + g k) k = qs f k + qs g k := by
  cases k <;> rfl
theorem qs_sub (f g : Nat → Int) (k : Nat) : qs (fun k => f k - g k) k = qs f k - qs g k := by
  cases k <;> rfl
/-- left down -/
def ld (n : Nat) (A : Nat → Nat → Int) (t : Nat) (u : List Nat) : Prop := cx_l n A (t :: u) < cx_l n A u
noncomputable def rho (n : Nat) (A : Nat → Nat → Int) (s : Nat) (F : List Nat → Nat → Int) : List Nat → Nat → Int := fun u k => cii (dn n A u s) (F (u ++ [s]) k) (qs (F u) k - F u k + qs (F (u ++ [s])) k)
noncomputable def lam (n : Nat) (A : Nat → Nat → Int) (t : Nat) (F : List Nat → Nat → Int) : List Nat → Nat → Int := fun u k => cii (ld n A t u) (F (t :: u) k) (qs (F u) k - F u k + qs (F (t :: u)) k)
noncomputable def sgm (n : Nat) (A : Nat → Nat → Int) (s : Nat) (F : List Nat → Nat → Int) : List Nat → Nat → Int := fun u k => rho n A s F u k - (qs (F u) k - F u k)
noncomputable def rd0 (n : Nat) (A : Nat → Nat → Int) : List Nat → Nat → Int := fun u k => cii (cx_l n A u = 0) (if k = 0 then 1 else 0) 0
/-- a function on elements -/
def egl (n : Nat) (A : Nat → Nat → Int) (F : List Nat → Nat → Int) : Prop := ∀ u v, cx_g n A u = cx_g n A v → F u = F v
section S
variable {n : Nat} {A : Nat → Nat → Int} {F G : List Nat → Nat → Int} {s t : Nat} {u v : List Nat}
theorem ld_g (h : cx_g n A u = cx_g n A v) (t : Nat) : ld n A t u ↔ ld n A t v := by
  unfold ld
  rw [cx_l_eq h, cx_l_eq (cx_g_cons t h)]
theorem cii_cg {P Q : Prop} {a b c d : Int} (h : P ↔ Q) (h1 : P → a = c) (h2 : ¬ P → b = d) : cii P a b = cii Q c d := by
  by_cases hp : P
  · rw [cii_p hp, cii_p (h.mp hp), h1 hp]
  · rw [cii_n hp, cii_n (fun hq => hp (h.mpr hq)), h2 hp]
theorem rho_eg (h : egl n A F) : egl n A (rho n A s F) := by
  intro u v hg
  funext k
  unfold rho
  rw [h u v hg, h _ _ (cx_g_ap1 [s] hg)]
  exact cii_cg (dn_g hg s) (fun _ => rfl) (fun _ => rfl)
theorem lam_eg (h : egl n A F) : egl n A (lam n A t F) := by
  intro u v hg
  funext k
  unfold lam
  rw [h u v hg, h _ _ (cx_g_cons t hg)]
  exact cii_cg (ld_g hg t) (fun _ => rfl) (fun _ => rfl)
theorem sgm_eg (h : egl n A F) : egl n A (sgm n A s F) := by
  intro u v hg
  funext k
  unfold sgm
  rw [rho_eg h u v hg, h u v hg]
theorem rd0_eg : egl n A (rd0 n A) := by
  intro u v hg
  funext k
  unfold rd0
  rw [cx_l_eq hg]
theorem rho_cg (h : ∀ u, cx_L n u → ∀ k, F u k = G u k) (hs : s < n) (hu : cx_L n u) (k : Nat) : rho n A s F u k = rho n A s G u k := by
  unfold rho
  have h1 := h u hu
  have h2 := h _ (cx_L_app hu (cx_L_1 hs))
  rw [qs_cg h1, h1, qs_cg h2, h2]
theorem lam_cg (h : ∀ u, cx_L n u → ∀ k, F u k = G u k) (ht : t < n) (hu : cx_L n u) (k : Nat) : lam n A t F u k = lam n A t G u k := by
  unfold lam
  have h1 := h u hu
  have h2 := h _ (cx_L_cons ht hu)
  rw [qs_cg h1, h1, qs_cg h2, h2]
theorem sgm_cg (h : ∀ u, cx_L n u → ∀ k, F u k = G u k) (hs : s < n) (hu : cx_L n u) (k : Nat) : sgm n A s F u k = sgm n A s G u k := by
  unfold sgm
  have h1 := h u hu
  rw [rho_cg h hs hu, qs_cg h1, h1]
/-- s, u longer and u, t longer, but s, u, t not: then they are one -/
theorem fold1 (hok : cx_ok n A) (hu : cx_L n u) (hs : s < n) (ht : t < n) (h1 : ¬ dn n A u s) (h2 : dn n A (t :: u) s) : cx_g n A (u ++ [s]) = cx_g n A (t :: u) := by
  rcases cx_step hok hu hs with ⟨a1, a2⟩ | ⟨a1, _⟩
  · rcases cx_step hok (cx_L_cons ht hu) hs with ⟨b1, _⟩ | ⟨b1, b2⟩
    · unfold dn at h2
      omega
    · exact cx_conj hok hu hs ht (cx_x_er hok hu hs ht a2 b2)
  · unfold dn at h1
    omega
theorem fold2 (hok : cx_ok n A) (hu : cx_L n u) (hs : s < n) (ht : t < n) (h1 : dn n A u s) (h2 : ¬ dn n A (t :: u) s) : cx_g n A (u ++ [s]) = cx_g n A (t :: u) := by
  have e : cx_g n A (t :: t :: u) = cx_g n A u := cx_g_sc hok ht u
  have h3 := fold1 hok (cx_L_cons ht hu) hs ht h2 ((dn_g e s).mpr h1)
  -- t, u, s is u
  have h4 : cx_g n A ((t :: u) ++ [s]) = cx_g n A u := h3.trans e
  have h5 : cx_g n A (t :: ((t :: u) ++ [s])) = cx_g n A (t :: u) := cx_g_cons t h4
  have h6 : cx_g n A (t :: ((t :: u) ++ [s])) = cx_g n A (u ++ [s]) := cx_g_sc hok ht (u ++ [s])
  exact h6.symm.trans h5
theorem ld_ld (hok : cx_ok n A) (hu : cx_L n u) (ht : t < n) : ld n A t (t :: u) ↔ ¬ ld n A t u := by
  unfold ld
  rw [cx_l_eq (cx_g_sc hok ht u)]
  rcases cx_lstep hok hu ht with h | h <;> omega
theorem lr_c (hok : cx_ok n A) (hF : egl n A F) (hu : cx_L n u) (hs : s < n) (ht : t < n) (k : Nat) : rho n A s (lam n A t F) u k = lam n A t (rho n A s F) u k := by
  have usL : cx_L n (u ++ [s]) := cx_L_app hu (cx_L_1 hs)
  have tuL : cx_L n (t :: u) := cx_L_cons ht hu
  by_cases hE : cx_g n A (u ++ [s]) = cx_g n A (t :: u)
  · -- one and the same
    have f1 : F (u ++ [s]) = F (t :: u) := hF _ _ hE
    have e2 : cx_g n A (t :: (u ++ [s])) = cx_g n A u := by
      rw [cx_g_cons t hE]
      exact cx_g_sc hok ht u
    have f2 : F (t :: (u ++ [s])) = F u := hF _ _ e2
    have f3 : F ((t :: u) ++ [s]) = F u := f2
    have ll : cx_l n A (u ++ [s]) = cx_l n A (t :: u) := cx_l_eq hE
    by_cases hd : dn n A u s
    · have hl : ld n A t u := by unfold ld; unfold dn at hd; omega
      have hl2 : ¬ ld n A t (u ++ [s]) := fun h => (ld_ld hok hu ht).mp ((ld_g hE t).mp h) hl
      have hd2 : ¬ dn n A (t :: u) s := fun h => (dn_dn hok hu hs).mp ((dn_g hE s).mpr h) hd
      show cii (dn n A u s) (lam n A t F (u ++ [s]) k) _ = cii (ld n A t u) (rho n A s F (t :: u) k) _
      rw [cii_p hd, cii_p hl]
      show cii (ld n A t (u ++ [s])) _ _ = cii (dn n A (t :: u) s) _ _
      rw [cii_n hl2, cii_n hd2, f1, f2, f3]
    · have hl : ¬ ld n A t u := by
        unfold ld
        unfold dn at hd
        omega
      have hl2 : ld n A t (u ++ [s]) := (ld_g hE t).mpr ((ld_ld hok hu ht).mpr hl)
      have hd2 : dn n A (t :: u) s := (dn_g hE s).mp ((dn_dn hok hu hs).mpr hd)
      have g1 : ∀ k, lam n A t F u k = qs (F u) k - F u k + qs (F (t :: u)) k := fun k => cii_n hl
      have g2 : ∀ k, lam n A t F (u ++ [s]) k = F u k := fun k => by
        show cii (ld n A t (u ++ [s])) _ _ = _
        rw [cii_p hl2, f2]
      have g3 : ∀ k, rho n A s F u k = qs (F u) k - F u k + qs (F (t :: u)) k := fun k => by
        show cii (dn n A u s) _ _ = _
        rw [cii_n hd, f1]
      have g4 : ∀ k, rho n A s F (t :: u) k = F u k := fun k => by
        show cii (dn n A (t :: u) s) _ _ = _
        rw [cii_p hd2, f3]
      show cii (dn n A u s) _ (qs (lam n A t F u) k - lam n A t F u k + qs (lam n A t F (u ++ [s])) k) = cii (ld n A t u) _ (qs (rho n A s F u) k - rho n A s F u k + qs (rho n A s F (t :: u)) k)
      rw [cii_n hd, cii_n hl, g1, g3, qs_cg g2, qs_cg g4, qs_cg g1, qs_cg g3]
  · have a1 : dn n A (t :: u) s ↔ dn n A u s := by
      constructor
      · exact fun h => Classical.byContradiction (fun hh => hE (fold1 hok hu hs ht hh h))
      · exact fun h => Classical.byContradiction (fun hh => hE (fold2 hok hu hs ht h hh))
    have a2 : ld n A t (u ++ [s]) ↔ ld n A t u := by
      have e1 : cx_l n A (t :: (u ++ [s])) = cx_l n A ((t :: u) ++ [s]) := rfl
      unfold ld
      unfold dn at a1
      rw [e1]
      rcases cx_rstep hok hu hs with h1 | h1 <;> rcases cx_rstep hok tuL hs with h2 | h2 <;> omega
    have e0 : F (t :: (u ++ [s])) = F ((t :: u) ++ [s]) := rfl
    show cii (dn n A u s) (lam n A t F (u ++ [s]) k) (qs (lam n A t F u) k - lam n A t F u k + qs (lam n A t F (u ++ [s])) k) = cii (ld n A t u) (rho n A s F (t :: u) k) (qs (rho n A s F u) k - rho n A s F u k + qs (rho n A s F (t :: u)) k)
    by_cases hd : dn n A u s
    · have hd2 := a1.mpr hd
      have r1 : ∀ k, rho n A s F (t :: u) k = F ((t :: u) ++ [s]) k := fun k => cii_p hd2
      have r2 : ∀ k, rho n A s F u k = F (u ++ [s]) k := fun k => cii_p hd
      by_cases hl : ld n A t u
      · have hl2 := a2.mpr hl
        have l1 : ∀ k, lam n A t F (u ++ [s]) k = F (t :: (u ++ [s])) k := fun k => cii_p hl2
        rw [cii_p hd, cii_p hl, l1, r1, e0]
      · have hl2 : ¬ ld n A t (u ++ [s]) := fun h => hl (a2.mp h)
        have l1 : ∀ k, lam n A t F (u ++ [s]) k = qs (F (u ++ [s])) k - F (u ++ [s]) k + qs (F (t :: (u ++ [s]))) k := fun k => cii_n hl2
        rw [cii_p hd, cii_n hl, l1, r2, qs_cg r2, qs_cg r1, e0]
    · have hd2 : ¬ dn n A (t :: u) s := fun h => hd (a1.mp h)
      have r1 : ∀ k, rho n A s F (t :: u) k = qs (F (t :: u)) k - F (t :: u) k + qs (F ((t :: u) ++ [s])) k := fun k => cii_n hd2
      have r2 : ∀ k, rho n A s F u k = qs (F u) k - F u k + qs (F (u ++ [s])) k := fun k => cii_n hd
      by_cases hl : ld n A t u
      · have hl2 := a2.mpr hl
        have l1 : ∀ k, lam n A t F (u ++ [s]) k = F (t :: (u ++ [s])) k := fun k => cii_p hl2
        have l2 : ∀ k, lam n A t F u k = F (t :: u) k := fun k => cii_p hl
        rw [cii_n hd, cii_p hl, l2, qs_cg l2, qs_cg l1, r1, e0]
      · have hl2 : ¬ ld n A t (u ++ [s]) := fun h => hl (a2.mp h)
        have l1 : ∀ k, lam n A t F (u ++ [s]) k = qs (F (u ++ [s])) k - F (u ++ [s]) k + qs (F (t :: (u ++ [s]))) k := fun k => cii_n hl2
        have l2 : ∀ k, lam n A t F u k = qs (F u) k - F u k + qs (F (t :: u)) k := fun k => cii_n hl
        rw [cii_n hd, cii_n hl, l2, r2, qs_cg l2, qs_cg r2, qs_cg l1, qs_cg r1, e0]
        cases k with
        | zero =>
          show (0 : Int) - (0 - F u 0 + 0) + 0 = 0 - (0 - F u 0 + 0) + 0
          omega
        | succ k =>
          show qs (F u) k - F u k + qs (F (t :: u)) k - (F u k - F u (k + 1) + F (t :: u) k) + (qs (F (u ++ [s])) k - F (u ++ [s]) k + qs (F ((t :: u) ++ [s])) k) = qs (F u) k - F u k + qs (F (u ++ [s])) k - (F u k - F u (k + 1) + F (u ++ [s]) k) + (qs (F (t :: u)) k - F (t :: u) k + qs (F ((t :: u) ++ [s])) k)
          omega
/-- at the start left and right are one -/
theorem dl_c (hok : cx_ok n A) (hu : cx_L n u) (hs : s < n) (k : Nat) : rho n A s (rd0 n A) u k = lam n A s (rd0 n A) u k := by
  have zr : cx_l n A (u ++ [s]) = 0 ↔ cx_l n A (s :: u) = 0 := by
    constructor
    · intro h
      have h1 := cx_l_0 (cx_L_app hu (cx_L_1 hs)) h
      have h2 := cx_g_vm hok (cx_L_1 hs) h1
      have h3 : cx_g n A u = cx_g n A [s] := h2
      rw [cx_l_eq (cx_g_cons s h3), cx_l_eq (cx_g_ss hok hs), cx_l_nil]
    · intro h
      have h1 := cx_l_0 (cx_L_cons hs hu) h
      have h2 := cx_g_mv hok (x := [s]) (cx_L_1 hs) h1
      have h3 : cx_g n A u = cx_g n A [s] := h2
      have h4 : cx_g n A (u ++ [s]) = cx_g n A [s, s] := cx_g_ap1 [s] h3
      rw [cx_l_eq h4, cx_l_eq (cx_g_ss hok hs), cx_l_nil]
  show cii (dn n A u s) (rd0 n A (u ++ [s]) k) _ = cii (ld n A s u) (rd0 n A (s :: u) k) _
  have d1 : ∀ x : List Nat, cx_l n A x ≠ 0 → ∀ k, rd0 n A x k = 0 := fun x h k => cii_n h
  by_cases h0 : cx_l n A u = 0
  · have a1 : ¬ dn n A u s := by unfold dn; omega
    have a2 : ¬ ld n A s u := by unfold ld; omega
    have b1 := up_1 hok hu hs a1
    have b2 : cx_l n A (s :: u) ≠ 0 := by rcases cx_lstep hok hu hs with h | h <;> omega
    rw [cii_n a1, cii_n a2, qs_cg (d1 _ (by omega : cx_l n A (u ++ [s]) ≠ 0)), qs_cg (d1 _ b2)]
  · have w0 := d1 u h0
    by_cases hz : cx_l n A (u ++ [s]) = 0
    · have hz2 := zr.mp hz
      have a1 : dn n A u s := by unfold dn; omega
      have a2 : ld n A s u := by unfold ld; omega
      rw [cii_p a1, cii_p a2]
      unfold rd0
      rw [cii_p hz, cii_p hz2]
    · have hz2 : cx_l n A (s :: u) ≠ 0 := fun h => hz (zr.mpr h)
      have c1 : cii (dn n A u s) (rd0 n A (u ++ [s]) k) (qs (rd0 n A u) k - rd0 n A u k + qs (rd0 n A (u ++ [s])) k) = 0 := by
        rw [qs_cg w0, w0, qs_cg (d1 _ hz), d1 _ hz]
        have : ∀ k, qs (fun _ => (0 : Int)) k = 0 := fun k => by cases k <;> rfl
        rw [this]
        by_cases hp : dn n A u s
        · exact cii_p hp
        · exact cii_n hp
      have c2 : cii (ld n A s u) (rd0 n A (s :: u) k) (qs (rd0 n A u) k - rd0 n A u k + qs (rd0 n A (s :: u)) k) = 0 := by
        rw [qs_cg w0, w0, qs_cg (d1 _ hz2), d1 _ hz2]
        have : ∀ k, qs (fun _ => (0 : Int)) k = 0 := fun k => by cases k <;> rfl
        rw [this]
        by_cases hp : ld n A s u
        · exact cii_p hp
        · exact cii_n hp
      rw [c1, c2]
end S
