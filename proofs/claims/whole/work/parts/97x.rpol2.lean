/-! R along a word; unlike least words of one element give the same. -/
section S
variable {n : Nat} {A : Nat → Nat → Int} {F G : List Nat → Nat → Int} {s t : Nat} {u v : List Nat}
/-- R along the letters of a word, the last one first -/
noncomputable def rwl (n : Nat) (A : Nat → Nat → Int) : List Nat → List Nat → Nat → Int
  | [] => rd0 n A
  | s :: r => rho n A s (rwl n A r)
noncomputable def rww (n : Nat) (A : Nat → Nat → Int) (w : List Nat) : List Nat → Nat → Int := rwl n A w.reverse
theorem rww_nil : rww n A [] = rd0 n A := rfl
theorem rww_s (w : List Nat) (s : Nat) : rww n A (w ++ [s]) = rho n A s (rww n A w) := by
  unfold rww
  rw [List.reverse_append]
  rfl
theorem rwl_eg : ∀ r : List Nat, egl n A (rwl n A r) := by
  intro r
  induction r with
  | nil => exact rd0_eg
  | cons s r ih => exact rho_eg ih
theorem rww_eg (w : List Nat) : egl n A (rww n A w) := rwl_eg _
/-- the first letter works on the left -/
theorem rww_l (hok : cx_ok n A) (ht : t < n) : ∀ (r : List Nat), cx_L n r → ∀ u, cx_L n u → ∀ k, rwl n A (r ++ [t]) u k = lam n A t (rwl n A r) u k := by
  intro r
  induction r with
  | nil => exact fun _ u hu k => dl_c hok hu ht k
  | cons s r ih =>
    intro hr u hu k
    have hs := cx_L_hd hr
    show rho n A s (rwl n A (r ++ [t])) u k = lam n A t (rho n A s (rwl n A r)) u k
    rw [rho_cg (ih (cx_L_tl hr)) hs hu, lr_c hok (rwl_eg r) hu hs ht]
theorem rww_c (hok : cx_ok n A) (ht : t < n) {w : List Nat} (hw : cx_L n w) (hu : cx_L n u) (k : Nat) : rww n A (t :: w) u k = lam n A t (rww n A w) u k := by
  unfold rww
  rw [List.reverse_cons]
  exact rww_l hok ht _ (cx_L_rev hw) u hu k
/-- sigma along a word -/
noncomputable def sgw (n : Nat) (A : Nat → Nat → Int) : List Nat → (List Nat → Nat → Int) → List Nat → Nat → Int
  | [], F => F
  | s :: w, F => sgm n A s (sgw n A w F)
theorem sgw_eg (h : egl n A F) : ∀ w, egl n A (sgw n A w F) := by
  intro w
  induction w with
  | nil => exact h
  | cons s w ih => exact sgm_eg ih
theorem sgw_cg : ∀ {w : List Nat}, cx_L n w → (∀ u, cx_L n u → ∀ k, F u k = G u k) → ∀ u, cx_L n u → ∀ k, sgw n A w F u k = sgw n A w G u k := by
  intro w
  induction w with
  | nil => exact fun _ h => h
  | cons s w ih => exact fun hw h u hu k => sgm_cg (ih (cx_L_tl hw) h) (cx_L_hd hw) hu k
/-- (q - 1) times, on the left and on the right -/
theorem lam_q (t : Nat) (u : List Nat) (k : Nat) : lam n A t (fun u k => qs (F u) k - F u k) u k = qs (lam n A t F u) k - lam n A t F u k := by
  by_cases hl : ld n A t u
  · have e1 : ∀ k, lam n A t F u k = F (t :: u) k := fun k => cii_p hl
    have e2 : lam n A t (fun u k => qs (F u) k - F u k) u k = qs (F (t :: u)) k - F (t :: u) k := cii_p hl
    rw [e2, qs_cg e1, e1]
  · have e1 : ∀ k, lam n A t F u k = qs (F u) k - F u k + qs (F (t :: u)) k := fun k => cii_n hl
    have e2 : lam n A t (fun u k => qs (F u) k - F u k) u k = qs (fun k => qs (F u) k - F u k) k - (qs (F u) k - F u k) + qs (fun k => qs (F (t :: u)) k - F (t :: u) k) k := cii_n hl
    rw [e2, qs_cg e1, e1]
    cases k with
    | zero =>
      show (0 : Int) - (0 - F u 0) + 0 = 0 - (0 - F u 0 + 0)
      omega
    | succ k =>
      show qs (F u) k - F u k - (F u k - F u (k + 1)) + (qs (F (t :: u)) k - F (t :: u) k) = qs (F u) k - F u k + qs (F (t :: u)) k - (F u k - F u (k + 1) + F (t :: u) k)
      omega
theorem lam_sub (t : Nat) (u : List Nat) (k : Nat) : lam n A t (fun u k => F u k - G u k) u k = lam n A t F u k - lam n A t G u k := by
  by_cases hl : ld n A t u
  · show cii (ld n A t u) _ _ = cii (ld n A t u) _ _ - cii (ld n A t u) _ _
    rw [cii_p hl, cii_p hl, cii_p hl]
  · show cii (ld n A t u) _ _ = cii (ld n A t u) _ _ - cii (ld n A t u) _ _
    rw [cii_n hl, cii_n hl, cii_n hl]
    cases k with
    | zero =>
      show (0 : Int) - (F u 0 - G u 0) + 0 = 0 - F u 0 + 0 - (0 - G u 0 + 0)
      omega
    | succ k =>
      show F u k - G u k - (F u (k + 1) - G u (k + 1)) + (F (t :: u) k - G (t :: u) k) = F u k - F u (k + 1) + F (t :: u) k - (G u k - G u (k + 1) + G (t :: u) k)
      omega
theorem sl_c (hok : cx_ok n A) (hF : egl n A F) (hu : cx_L n u) (hs : s < n) (ht : t < n) (k : Nat) : sgm n A s (lam n A t F) u k = lam n A t (sgm n A s F) u k := by
  have e1 : sgm n A s F = fun u k => rho n A s F u k - (fun u k => qs (F u) k - F u k) u k := rfl
  rw [e1, lam_sub, lam_q, ← lr_c hok hF hu hs ht]
  rfl
theorem sgw_l (hok : cx_ok n A) (hF : egl n A F) (ht : t < n) : ∀ {w : List Nat}, cx_L n w → ∀ u, cx_L n u → ∀ k, sgw n A w (lam n A t F) u k = lam n A t (sgw n A w F) u k := by
  intro w
  induction w with
  | nil => exact fun _ u _ k => rfl
  | cons s w ih =>
    intro hw u hu k
    show sgm n A s (sgw n A w (lam n A t F)) u k = lam n A t (sgm n A s (sgw n A w F)) u k
    rw [sgm_cg (ih (cx_L_tl hw)) (cx_L_hd hw) hu, sl_c hok (sgw_eg hF w) hu (cx_L_hd hw) ht]
theorem qs_0 (k : Nat) : qs (fun _ => (0 : Int)) k = 0 := by cases k <;> rfl
/-- sigma along a least word of w makes the start to what is at w back alone -/
theorem sgw_d (hok : cx_ok n A) : ∀ {w : List Nat}, cx_L n w → cx_l n A w = w.length → ∀ u, cx_L n u → ∀ k, sgw n A w (rd0 n A) u k = cii (cx_g n A u = cx_g n A w.reverse) (if k = 0 then 1 else 0) 0 := by
  intro w
  induction w with
  | nil =>
    intro _ _ u hu k
    refine cii_cg ⟨fun h => cx_l_0 hu h, fun h => ?_⟩ (fun _ => rfl) (fun _ => rfl)
    rw [cx_l_eq h]
    exact cx_l_nil
  | cons s w ih =>
    intro hw hl u hu k
    have hs := cx_L_hd hw
    have wL := cx_L_tl hw
    have wl : cx_l n A w = w.length := by
      have h1 := cx_l_len (A := A) wL
      rw [List.length_cons] at hl
      rcases cx_lstep hok wL hs with h | h <;> omega
    have up : ¬ dn n A w.reverse s := by
      unfold dn
      rw [cx_l_rev hok wL, ← cx_l_cons hok wL hs, hl, wl, List.length_cons]
      omega
    have usL : cx_L n (u ++ [s]) := cx_L_app hu (cx_L_1 hs)
    have h1 := ih wL wl u hu
    have h2 := ih wL wl (u ++ [s]) usL
    have g1 : cx_g n A (u ++ [s]) = cx_g n A w.reverse ↔ cx_g n A u = cx_g n A (s :: w).reverse := by
      rw [List.reverse_cons]
      constructor
      · intro h
        have := cx_g_ap1 [s] h
        rw [cx_g_sr hok hs] at this
        exact this
      · intro h
        have := cx_g_ap1 [s] h
        rw [cx_g_sr hok hs] at this
        exact this
    show rho n A s (sgw n A w (rd0 n A)) u k - (qs (sgw n A w (rd0 n A) u) k - sgw n A w (rd0 n A) u k) = _
    by_cases hd : dn n A u s
    · have e1 : rho n A s (sgw n A w (rd0 n A)) u k = sgw n A w (rd0 n A) (u ++ [s]) k := cii_p hd
      have n1 : ¬ cx_g n A u = cx_g n A w.reverse := fun h => up ((dn_g h s).mp hd)
      have z1 : ∀ k, sgw n A w (rd0 n A) u k = 0 := fun k => by rw [h1 k, cii_n n1]
      rw [e1, qs_cg z1, z1, qs_0, h2 k]
      rw [show ∀ a : Int, a - (0 - 0) = a from fun a => by omega]
      exact cii_cg g1 (fun _ => rfl) (fun _ => rfl)
    · have e1 : rho n A s (sgw n A w (rd0 n A)) u k = qs (sgw n A w (rd0 n A) u) k - sgw n A w (rd0 n A) u k + qs (sgw n A w (rd0 n A) (u ++ [s])) k := cii_n hd
      have n2 : ¬ cx_g n A (u ++ [s]) = cx_g n A w.reverse := fun h => up ((dn_g h s).mp ((dn_dn hok hu hs).mpr hd))
      have z2 : ∀ k, sgw n A w (rd0 n A) (u ++ [s]) k = 0 := fun k => by rw [h2 k, cii_n n2]
      rw [e1, qs_cg z2, qs_0, cii_n (fun h => n2 (g1.mpr h))]
      omega
/-- q to the m times -/
def qn : Nat → (Nat → Int) → Nat → Int
  | 0, f => f
  | m + 1, f => qs (qn m f)
theorem qn_cg {f g : Nat → Int} (h : ∀ k, f k = g k) : ∀ (m k : Nat), qn m f k = qn m g k := by
  intro m
  induction m with
  | zero => exact h
  | succ m ih => exact fun k => qs_cg ih k
theorem qn_qs (f : Nat → Int) : ∀ (m k : Nat), qn m (qs f) k = qs (qn m f) k := by
  intro m
  induction m with
  | zero => exact fun k => rfl
  | succ m ih => exact fun k => qs_cg ih k
theorem qn_inj {f g : Nat → Int} : ∀ (m : Nat), (∀ k, qn m f k = qn m g k) → ∀ k, f k = g k := by
  intro m
  induction m with
  | zero => exact fun h => h
  | succ m ih => exact fun h => ih (fun k => h (k + 1))
theorem rs_q (hok : cx_ok n A) (hF : egl n A F) (hu : cx_L n u) (hs : s < n) (k : Nat) : rho n A s (sgm n A s F) u k = qs (F u) k ∧ sgm n A s (rho n A s F) u k = qs (F u) k := by
  have usL : cx_L n (u ++ [s]) := cx_L_app hu (cx_L_1 hs)
  have e : F (u ++ [s] ++ [s]) = F u := hF _ _ (cx_g_sr hok hs u)
  have f1 : ∀ x, dn n A x s → ∀ k, rho n A s F x k = F (x ++ [s]) k := fun x h k => cii_p h
  have f2 : ∀ x, ¬ dn n A x s → ∀ k, rho n A s F x k = qs (F x) k - F x k + qs (F (x ++ [s])) k := fun x h k => cii_n h
  have g1 : ∀ x, dn n A x s → ∀ k, sgm n A s F x k = F (x ++ [s]) k - (qs (F x) k - F x k) := fun x h k => by
    show rho n A s F x k - _ = _
    rw [f1 x h]
  have g2 : ∀ x, ¬ dn n A x s → ∀ k, sgm n A s F x k = qs (F (x ++ [s])) k := fun x h k => by
    show rho n A s F x k - _ = _
    rw [f2 x h]
    omega
  by_cases hd : dn n A u s
  · have hd2 : ¬ dn n A (u ++ [s]) s := fun h => (dn_dn hok hu hs).mp h hd
    constructor
    · have : rho n A s (sgm n A s F) u k = sgm n A s F (u ++ [s]) k := cii_p hd
      rw [this, g2 _ hd2, e]
    · have e1 : rho n A s (rho n A s F) u k = rho n A s F (u ++ [s]) k := cii_p hd
      show rho n A s (rho n A s F) u k - (qs (rho n A s F u) k - rho n A s F u k) = _
      rw [e1, f2 _ hd2, qs_cg (f1 u hd), f1 u hd, e]
      omega
  · have hd2 : dn n A (u ++ [s]) s := (dn_dn hok hu hs).mpr hd
    constructor
    · have : rho n A s (sgm n A s F) u k = qs (sgm n A s F u) k - sgm n A s F u k + qs (sgm n A s F (u ++ [s])) k := cii_n hd
      rw [this, qs_cg (g2 u hd), g2 u hd, qs_cg (g1 _ hd2), e]
      cases k with
      | zero => rfl
      | succ k =>
        show qs (F (u ++ [s])) k - F (u ++ [s]) k + (F u k - (qs (F (u ++ [s])) k - F (u ++ [s]) k)) = F u k
        omega
    · have e1 : rho n A s (rho n A s F) u k = qs (rho n A s F u) k - rho n A s F u k + qs (rho n A s F (u ++ [s])) k := cii_n hd
      show rho n A s (rho n A s F) u k - (qs (rho n A s F u) k - rho n A s F u k) = _
      rw [e1, qs_cg (f1 _ hd2), e]
      omega
theorem rho_q (s m : Nat) (u : List Nat) (k : Nat) : rho n A s (fun u => qn m (F u)) u k = qn m (rho n A s F u) k := by
  induction m generalizing k with
  | zero => rfl
  | succ m ih =>
    by_cases hd : dn n A u s
    · have e1 : rho n A s (fun u => qn (m + 1) (F u)) u k = qs (qn m (F (u ++ [s]))) k := cii_p hd
      have e2 : ∀ k, qn m (rho n A s F u) k = qn m (F (u ++ [s])) k := qn_cg (fun k => cii_p hd) m
      rw [e1]
      exact (qs_cg e2 k).symm
    · have e1 : rho n A s (fun u => qn (m + 1) (F u)) u k = qs (qs (qn m (F u))) k - qs (qn m (F u)) k + qs (qs (qn m (F (u ++ [s])))) k := cii_n hd
      have e2 : ∀ k, qn m (rho n A s F u) k = qs (qn m (F u)) k - qn m (F u) k + qs (qn m (F (u ++ [s]))) k := fun k => by
        rw [← ih k]
        exact cii_n hd
      rw [e1]
      show _ = qs (qn m (rho n A s F u)) k
      rw [qs_cg e2]
      cases k with
      | zero => rfl
      | succ k => rfl
theorem sgw_ap (w : List Nat) (s : Nat) : sgw n A (w ++ [s]) F = sgw n A w (sgm n A s F) := by
  induction w with
  | nil => rfl
  | cons t w ih =>
    show sgm n A t (sgw n A (w ++ [s]) F) = sgm n A t (sgw n A w (sgm n A s F))
    rw [ih]
theorem sgm_q (s m : Nat) (u : List Nat) (k : Nat) : sgm n A s (fun u => qn m (F u)) u k = qn m (sgm n A s F u) k := by
  have e0 : ∀ (m k : Nat), qn m (fun k => rho n A s F u k - (qs (F u) k - F u k)) k = qn m (rho n A s F u) k - (qs (qn m (F u)) k - qn m (F u) k) := by
    intro m
    induction m with
    | zero => exact fun k => rfl
    | succ m ih =>
      intro k
      show qs (qn m _) k = qs (qn m _) k - (qs (qs (qn m (F u))) k - qs (qn m (F u)) k)
      rw [qs_cg ih]
      cases k <;> rfl
  show rho n A s (fun u => qn m (F u)) u k - (qs (qn m (F u)) k - qn m (F u) k) = qn m (fun k => rho n A s F u k - (qs (F u) k - F u k)) k
  rw [rho_q, e0]
theorem sgw_q (m : Nat) : ∀ {w : List Nat}, cx_L n w → ∀ u, cx_L n u → ∀ k, sgw n A w (fun u => qn m (F u)) u k = qn m (sgw n A w F u) k := by
  intro w
  induction w with
  | nil => exact fun _ u _ k => rfl
  | cons s w ih =>
    intro hw u hu k
    show sgm n A s (sgw n A w (fun u => qn m (F u))) u k = qn m (sgm n A s (sgw n A w F) u) k
    rw [sgm_cg (G := fun u => qn m (sgw n A w F u)) (ih (cx_L_tl hw)) (cx_L_hd hw) hu, sgm_q]
/-- rho along a word -/
noncomputable def rhw (n : Nat) (A : Nat → Nat → Int) : List Nat → (List Nat → Nat → Int) → List Nat → Nat → Int
  | [], F => F
  | s :: r, F => rho n A s (rhw n A r F)
theorem rhw_cg : ∀ {r : List Nat}, cx_L n r → (∀ u, cx_L n u → ∀ k, F u k = G u k) → ∀ u, cx_L n u → ∀ k, rhw n A r F u k = rhw n A r G u k := by
  intro r
  induction r with
  | nil => exact fun _ h => h
  | cons s r ih => exact fun hr h u hu k => rho_cg (ih (cx_L_tl hr) h) (cx_L_hd hr) hu k
theorem rhw_rwl : ∀ (r : List Nat), rhw n A r (rd0 n A) = rwl n A r := by
  intro r
  induction r with
  | nil => rfl
  | cons s r ih =>
    show rho n A s (rhw n A r (rd0 n A)) = rho n A s (rwl n A r)
    rw [ih]
theorem rhw_q (m : Nat) : ∀ {r : List Nat}, cx_L n r → ∀ u, cx_L n u → ∀ k, rhw n A r (fun u => qn m (F u)) u k = qn m (rhw n A r F u) k := by
  intro r
  induction r with
  | nil => exact fun _ u _ k => rfl
  | cons s r ih =>
    intro hr u hu k
    show rho n A s (rhw n A r (fun u => qn m (F u))) u k = qn m (rho n A s (rhw n A r F) u) k
    rw [rho_cg (G := fun u => qn m (rhw n A r F u)) (ih (cx_L_tl hr)) (cx_L_hd hr) hu, rho_q]
/-- sigma along a word, and back by rho -/
theorem rhw_sgw (hok : cx_ok n A) (hF : egl n A F) : ∀ (r : List Nat), cx_L n r → ∀ F, egl n A F → ∀ u, cx_L n u → ∀ k, rhw n A r (sgw n A r.reverse F) u k = qn r.length (F u) k := by
  intro r
  induction r with
  | nil => exact fun _ F _ u _ k => rfl
  | cons s r ih =>
    intro hr F hF u hu k
    have hs := cx_L_hd hr
    rw [List.reverse_cons, sgw_ap]
    show rho n A s (rhw n A r (sgw n A r.reverse (sgm n A s F))) u k = qs (qn r.length (F u)) k
    rw [rho_cg (G := fun u => qn r.length (sgm n A s F u)) (ih (cx_L_tl hr) _ (sgm_eg hF)) hs hu, rho_q, qn_cg (fun k => (rs_q hok hF hu hs k).1), qn_qs]
theorem sgw_rhw (hok : cx_ok n A) : ∀ (r : List Nat), cx_L n r → ∀ u, cx_L n u → ∀ k, sgw n A r.reverse (rwl n A r) u k = qn r.length (rd0 n A u) k := by
  intro r
  induction r with
  | nil => exact fun _ u _ k => rfl
  | cons s r ih =>
    intro hr u hu k
    have hs := cx_L_hd hr
    have rL := cx_L_tl hr
    rw [List.reverse_cons, sgw_ap]
    show sgw n A r.reverse (sgm n A s (rho n A s (rwl n A r))) u k = qs (qn r.length (rd0 n A u)) k
    rw [sgw_cg (G := fun u => qn 1 (rwl n A r u)) (cx_L_rev rL) (fun u hu k => (rs_q hok (rwl_eg r) hu hs k).2) u hu, sgw_q 1 (cx_L_rev rL) u hu]
    exact qs_cg (ih rL u hu) k
/-- unlike least words of one element give the same sigma on what R is along a word -/
theorem sgw_un (hok : cx_ok n A) {w w' : List Nat} (hw : cx_L n w) (hw' : cx_L n w') (hl : cx_l n A w = w.length) (hl' : cx_l n A w' = w'.length) (hg : cx_g n A w = cx_g n A w') : ∀ (x : List Nat), cx_L n x → ∀ u, cx_L n u → ∀ k, sgw n A w (rww n A x) u k = sgw n A w' (rww n A x) u k := by
  intro x
  induction x with
  | nil =>
    intro _ u hu k
    rw [rww_nil, sgw_d hok hw hl u hu, sgw_d hok hw' hl' u hu, cx_g_rev hok hw hw' hg]
  | cons t x ih =>
    intro hx u hu k
    have ht := cx_L_hd hx
    have xL := cx_L_tl hx
    have e : ∀ u, cx_L n u → ∀ k, rww n A (t :: x) u k = lam n A t (rww n A x) u k := fun u hu k => rww_c hok ht xL hu k
    rw [sgw_cg hw e u hu, sgw_cg hw' e u hu, sgw_l hok (rww_eg x) ht hw u hu, sgw_l hok (rww_eg x) ht hw' u hu, lam_cg (ih xL) ht hu]
/-- R belongs to the element -/
theorem rww_un (hok : cx_ok n A) {w w' : List Nat} (hw : cx_L n w) (hw' : cx_L n w') (hl : cx_l n A w = w.length) (hl' : cx_l n A w' = w'.length) (hg : cx_g n A w = cx_g n A w') (hu : cx_L n u) (k : Nat) : rww n A w u k = rww n A w' u k := by
  have hlen : w.reverse.length = w'.reverse.length := by rw [List.length_reverse, List.length_reverse, ← hl, ← hl', cx_l_eq hg]
  have e1 : ∀ u, cx_L n u → ∀ k, rhw n A w.reverse (sgw n A w (rww n A w')) u k = qn w.reverse.length (rww n A w' u) k := fun u hu k => by
    have := rhw_sgw hok (rww_eg w') w.reverse (cx_L_rev hw) _ (rww_eg w') u hu k
    rw [List.reverse_reverse] at this
    exact this
  have e2 : ∀ u, cx_L n u → ∀ k, sgw n A w (rww n A w') u k = qn w'.reverse.length (rd0 n A u) k := fun u hu k => by
    rw [sgw_un hok hw hw' hl hl' hg w' hw' u hu]
    have := sgw_rhw hok w'.reverse (cx_L_rev hw') u hu k
    rw [List.reverse_reverse] at this
    exact this
  have e3 : ∀ k, qn w.reverse.length (rww n A w' u) k = qn w.reverse.length (rww n A w u) k := fun k => by
    rw [← e1 u hu, rhw_cg (cx_L_rev hw) e2 u hu, rhw_q _ (cx_L_rev hw) u hu, rhw_rwl, hlen]
    rfl
  exact (qn_inj _ e3 k).symm
/-- there is no R of what is not shorter, but of the element itself -/
theorem rww_0 (hok : cx_ok n A) : ∀ (r : List Nat), cx_L n r → cx_l n A r.reverse = r.length → ∀ u, cx_L n u → r.length ≤ cx_l n A u → ∀ k, rwl n A r u k = cii (cx_g n A u = cx_g n A r.reverse) (if k = 0 then 1 else 0) 0 := by
  intro r
  induction r with
  | nil =>
    intro _ _ u hu _ k
    refine cii_cg ⟨fun h => cx_l_0 hu h, fun h => ?_⟩ (fun _ => rfl) (fun _ => rfl)
    rw [cx_l_eq h]
    exact cx_l_nil
  | cons s r ih =>
    intro hr hl u hu hle k
    have hs := cx_L_hd hr
    have rL := cx_L_tl hr
    rw [List.reverse_cons, List.length_cons] at hl
    have rl : cx_l n A r.reverse = r.length := by
      have h1 := cx_l_len (A := A) (cx_L_rev rL)
      rw [List.length_reverse] at h1
      rcases cx_rstep hok (cx_L_rev rL) hs with h | h <;> omega
    have dr : dn n A (r.reverse ++ [s]) s := (dn_dn hok (cx_L_rev rL) hs).mpr (by unfold dn; omega)
    rw [List.length_cons] at hle
    have usL : cx_L n (u ++ [s]) := cx_L_app hu (cx_L_1 hs)
    have g1 : cx_g n A (u ++ [s]) = cx_g n A r.reverse ↔ cx_g n A u = cx_g n A (s :: r).reverse := by
      rw [List.reverse_cons]
      constructor
      · intro h
        have := cx_g_ap1 [s] h
        rw [cx_g_sr hok hs] at this
        exact this
      · intro h
        have := cx_g_ap1 [s] h
        rw [cx_g_sr hok hs] at this
        exact this
    by_cases hd : dn n A u s
    · have e1 : rho n A s (rwl n A r) u k = rwl n A r (u ++ [s]) k := cii_p hd
      have := dn_1 hok hu hs hd
      show rho n A s (rwl n A r) u k = _
      rw [e1, ih rL rl (u ++ [s]) usL (by omega)]
      exact cii_cg g1 (fun _ => rfl) (fun _ => rfl)
    · have e1 : rho n A s (rwl n A r) u k = qs (rwl n A r u) k - rwl n A r u k + qs (rwl n A r (u ++ [s])) k := cii_n hd
      have up := up_1 hok hu hs hd
      have z1 : ∀ k, rwl n A r u k = 0 := fun k => by
        rw [ih rL rl u hu (by omega), cii_n]
        intro h
        have := cx_l_eq h
        omega
      have z2 : ∀ k, rwl n A r (u ++ [s]) k = 0 := fun k => by
        rw [ih rL rl _ usL (by omega), cii_n]
        intro h
        have := cx_l_eq h
        omega
      show rho n A s (rwl n A r) u k = _
      rw [e1, qs_cg z1, z1, qs_cg z2, qs_0, cii_n]
      · rfl
      · intro h
        rw [List.reverse_cons] at h
        exact hd ((dn_g h s).mpr dr)
end S
