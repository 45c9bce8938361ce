/-! The sum of R with a function: how it goes with the spread. -/
def cnv (f g : Nat → Int) (k : Nat) : Int := cx_sum (k + 1) (fun i => f i * g (k - i))
section S
variable {n : Nat} {A : Nat → Nat → Int} {s t : Nat} {u v w z : List Nat} {L : List (List Nat)} {f g : List Nat → Nat → Int}
theorem cnv_cg {a a' b b' : Nat → Int} (h1 : ∀ k, a k = a' k) (h2 : ∀ k, b k = b' k) (k : Nat) : cnv a b k = cnv a' b' k := cx_sum_eq (fun i _ => by rw [h1, h2])
theorem cnv_al (a a' b : Nat → Int) (k : Nat) : cnv (fun k => a k + a' k) b k = cnv a b k + cnv a' b k := by
  unfold cnv
  rw [← cx_sum_add]
  exact cx_sum_eq (fun i _ => Int.add_mul _ _ _)
theorem cnv_sl (a a' b : Nat → Int) (k : Nat) : cnv (fun k => a k - a' k) b k = cnv a b k - cnv a' b k := by
  unfold cnv
  rw [Int.sub_eq_add_neg, ← cx_sum_neg, ← cx_sum_add]
  exact cx_sum_eq (fun i _ => by rw [Int.sub_mul, Int.sub_eq_add_neg])
theorem cnv_ar (a b b' : Nat → Int) (k : Nat) : cnv a (fun k => b k + b' k) k = cnv a b k + cnv a b' k := by
  unfold cnv
  rw [← cx_sum_add]
  exact cx_sum_eq (fun i _ => Int.mul_add _ _ _)
theorem cnv_mr (c : Int) (a b : Nat → Int) (k : Nat) : cnv a (fun k => c * b k) k = c * cnv a b k := by
  unfold cnv
  rw [← cx_sum_mul]
  exact cx_sum_eq (fun i _ => Int.mul_left_comm _ _ _)
theorem cnv_ql (a b : Nat → Int) (k : Nat) : cnv (qs a) b k = qs (cnv a b) k := by
  cases k with
  | zero =>
    show (0 : Int) + 0 * b 0 = 0
    rw [Int.zero_mul]
    rfl
  | succ k =>
    show cx_sum (k + 1 + 1) (fun i => qs a i * b (k + 1 - i)) = cx_sum (k + 1) (fun i => a i * b (k - i))
    rw [cx_sum_sh a (fun i => b (k + 1 - i))]
    exact cx_sum_eq (fun i _ => by rw [show k + 1 - (i + 1) = k - i by omega])
theorem cnv_qr (a b : Nat → Int) (k : Nat) : cnv a (qs b) k = qs (cnv a b) k := by
  cases k with
  | zero =>
    show (0 : Int) + a 0 * 0 = 0
    rw [Int.mul_zero]
    rfl
  | succ k =>
    show cx_sum (k + 1) (fun i => a i * qs b (k + 1 - i)) + a (k + 1) * qs b (k + 1 - (k + 1)) = cx_sum (k + 1) (fun i => a i * b (k - i))
    rw [show k + 1 - (k + 1) = 0 by omega]
    show _ + a (k + 1) * 0 = _
    rw [Int.mul_zero, Int.add_zero]
    refine cx_sum_eq (fun i hi => ?_)
    rw [show k + 1 - i = (k - i) + 1 by omega]
    rfl
noncomputable def phi (n : Nat) (A : Nat → Nat → Int) (L : List (List Nat)) (f : List Nat → Nat → Int) : List Nat → Nat → Int := fun u k => lsm (fun x => cnv (Rx n A x u) (f x) k) L
noncomputable def tau (n : Nat) (A : Nat → Nat → Int) (s : Nat) (f : List Nat → Nat → Int) : List Nat → Nat → Int := fun u k => cii (dn n A u s) (f (u ++ [s]) k + qs (f u) k) (qs (f (u ++ [s])) k + f u k)
theorem tau_eg (h : egl n A f) : egl n A (tau n A s f) := by
  intro u v hg
  funext k
  unfold tau
  rw [h u v hg, h _ _ (cx_g_ap1 [s] hg)]
  exact cii_cg (dn_g hg s) (fun _ => rfl) (fun _ => rfl)
theorem phi_eg : egl n A (phi n A L f) := by
  intro u v hg
  funext k
  unfold phi
  refine lsm_cg (fun i x _ => ?_)
  rw [Rx_eg x u v hg]
theorem lsm_sub (F G : List Nat → Int) : lsm (fun u => F u - G u) L = lsm F L - lsm G L := by
  unfold lsm
  rw [Int.sub_eq_add_neg, ← cx_sum_neg, ← cx_sum_add]
  exact cx_sum_eq (fun i _ => Int.sub_eq_add_neg)
theorem lsm_qs (F : List Nat → Nat → Int) (k : Nat) : qs (fun k => lsm (fun x => F x k) L) k = lsm (fun x => qs (F x) k) L := qs_sum _ _ _
theorem rho_phi (s : Nat) (u : List Nat) (k : Nat) : rho n A s (phi n A L f) u k = lsm (fun x => cnv (rho n A s (Rx n A x) u) (f x) k) L := by
  by_cases hd : dn n A u s
  · have e1 : rho n A s (phi n A L f) u k = phi n A L f (u ++ [s]) k := cii_p hd
    rw [e1]
    refine lsm_cg (fun i x _ => cnv_cg (fun k => ?_) (fun _ => rfl) k)
    exact (show rho n A s (Rx n A x) u k = Rx n A x (u ++ [s]) k from cii_p hd).symm
  · have e1 : rho n A s (phi n A L f) u k = qs (phi n A L f u) k - phi n A L f u k + qs (phi n A L f (u ++ [s])) k := cii_n hd
    rw [e1]
    show qs (fun k => lsm (fun x => cnv (Rx n A x u) (f x) k) L) k - lsm (fun x => cnv (Rx n A x u) (f x) k) L + qs (fun k => lsm (fun x => cnv (Rx n A x (u ++ [s])) (f x) k) L) k = _
    rw [lsm_qs, lsm_qs, ← lsm_sub, ← lsm_add]
    refine lsm_cg (fun i x _ => ?_)
    rw [cnv_cg (show ∀ k, rho n A s (Rx n A x) u k = qs (Rx n A x u) k - Rx n A x u k + qs (Rx n A x (u ++ [s])) k from fun k => cii_n hd) (fun _ => rfl) k, cnv_al (fun k => qs (Rx n A x u) k - Rx n A x u k) (qs (Rx n A x (u ++ [s]))), cnv_sl (qs (Rx n A x u)) (Rx n A x u), cnv_ql, cnv_ql]
/-- all that stands below w, each once -/
def idl (n : Nat) (A : Nat → Nat → Int) (w : List Nat) (L : List (List Nat)) : Prop := lvq n A (fun u => sbe n A u w) L
theorem sbe_s (hok : cx_ok n A) (hw : cx_L n w) (hs : s < n) (hd : dn n A w s) (hu : cx_L n u) (h : sbe n A u w) : sbe n A (u ++ [s]) w := by
  have wsL : cx_L n (w ++ [s]) := cx_L_app hw (cx_L_1 hs)
  obtain ⟨a1, a2, a3⟩ := rdw_sp (A := A) wsL
  have g1 : cx_g n A (rdw n A (w ++ [s]) ++ [s]) = cx_g n A w := (cx_g_ap1 [s] a2).trans (cx_g_sr hok hs w)
  have l1 := dn_1 hok hw hs hd
  have zl : cx_l n A (rdw n A (w ++ [s]) ++ [s]) = (rdw n A (w ++ [s]) ++ [s]).length := by
    rw [cx_l_eq g1, List.length_append, ← a3, cx_l_eq a2, ← l1]
    rfl
  have zL : cx_L n (rdw n A (w ++ [s]) ++ [s]) := cx_L_app a1 (cx_L_1 hs)
  rw [sbe_w hok hu zL zl hw g1] at h
  rw [sbe_w hok (cx_L_app hu (cx_L_1 hs)) zL zl hw g1]
  obtain ⟨x, h1, h2⟩ := h
  rcases sub_snoc h1 with h3 | ⟨x', rfl, h3⟩
  · exact ⟨x ++ [s], h3.append (List.Sublist.refl _), cx_g_ap1 [s] h2⟩
  · refine ⟨x', h3.trans (List.sublist_append_left _ _), ?_⟩
    have := cx_g_ap1 [s] h2
    rw [cx_g_sr hok hs] at this
    exact this
theorem idl_s (hok : cx_ok n A) (hw : cx_L n w) (hs : s < n) (hd : dn n A w s) (h : idl n A w L) : idl n A w (L.map (fun u => u ++ [s])) := by
  have gm : ∀ {i : Nat} {u : List Nat}, (L.map (fun u => u ++ [s]))[i]? = some u → ∃ v, L[i]? = some v ∧ u = v ++ [s] := by
    intro i u hu
    rw [List.getElem?_map] at hu
    cases hi : L[i]? with
    | none => rw [hi] at hu; cases hu
    | some v =>
      rw [hi] at hu
      exact ⟨v, rfl, (Option.some.inj hu).symm⟩
  refine ⟨fun i j u v hu hv hg => ?_, fun i u hu => ?_, fun z hz hp => ?_⟩
  · obtain ⟨a, ha, rfl⟩ := gm hu
    obtain ⟨b, hb, rfl⟩ := gm hv
    have := cx_g_ap1 [s] hg
    rw [cx_g_sr hok hs, cx_g_sr hok hs] at this
    exact h.1 i j a b ha hb this
  · obtain ⟨a, ha, rfl⟩ := gm hu
    obtain ⟨h1, h2⟩ := h.2.1 i a ha
    exact ⟨cx_L_app h1 (cx_L_1 hs), sbe_s hok hw hs hd h1 h2⟩
  · obtain ⟨i, u, hu, hg⟩ := h.2.2 (z ++ [s]) (cx_L_app hz (cx_L_1 hs)) (sbe_s hok hw hs hd hz hp)
    refine ⟨i, u ++ [s], by rw [List.getElem?_map, hu]; rfl, ?_⟩
    rw [cx_g_ap1 [s] hg]
    exact cx_g_sr hok hs z
theorem lsm_map (F : List Nat → Int) : lsm F (L.map (fun u => u ++ [s])) = lsm (fun u => F (u ++ [s])) L := by
  unfold lsm
  rw [List.length_map]
  refine cx_sum_eq (fun i hi => ?_)
  have h1 := gd_ex hi
  rw [gd_of (ws := L.map (fun u => u ++ [s])) (i := i) (u := L.getD i [] ++ [s]) (by rw [List.getElem?_map, h1]; rfl)]
/-- the sum with the spread -/
theorem phi_tau (hok : cx_ok n A) (hw : cx_L n w) (hs : s < n) (hd : dn n A w s) (hL : idl n A w L) (hf : egl n A f) (hu : cx_L n u) (k : Nat) : phi n A L (tau n A s f) u k = rho n A s (phi n A L f) u k + phi n A L f u k := by
  -- the two halves
  have hc : ∀ (x : List Nat), cnv (Rx n A x u) (tau n A s f x) k = cii (dn n A x s) (qs (cnv (Rx n A x u) (f x)) k) (cnv (Rx n A x u) (f x) k) + cii (dn n A x s) (cnv (Rx n A x u) (f (x ++ [s])) k) (qs (cnv (Rx n A x u) (f (x ++ [s]))) k) := by
    intro x
    by_cases hx : dn n A x s
    · rw [cii_p hx, cii_p hx, cnv_cg (fun _ => rfl) (show ∀ k, tau n A s f x k = f (x ++ [s]) k + qs (f x) k from fun k => cii_p hx) k, cnv_ar, cnv_qr, Int.add_comm]
    · rw [cii_n hx, cii_n hx, cnv_cg (fun _ => rfl) (show ∀ k, tau n A s f x k = qs (f (x ++ [s])) k + f x k from fun k => cii_n hx) k, cnv_ar (Rx n A x u) (qs (f (x ++ [s]))), cnv_qr, Int.add_comm]
  have he : ∀ a b, cx_g n A a = cx_g n A b → cii (dn n A a s) (cnv (Rx n A a u) (f (a ++ [s])) k) (qs (cnv (Rx n A a u) (f (a ++ [s]))) k) = cii (dn n A b s) (cnv (Rx n A b u) (f (b ++ [s])) k) (qs (cnv (Rx n A b u) (f (b ++ [s]))) k) := by
    intro a b hg
    rw [Rx_g hg, hf _ _ (cx_g_ap1 [s] hg)]
    exact cii_cg (dn_g hg s) (fun _ => rfl) (fun _ => rfl)
  have e1 : phi n A L (tau n A s f) u k = lsm (fun x => cii (dn n A x s) (qs (cnv (Rx n A x u) (f x)) k) (cnv (Rx n A x u) (f x) k)) L + lsm (fun x => cii (dn n A x s) (cnv (Rx n A x u) (f (x ++ [s])) k) (qs (cnv (Rx n A x u) (f (x ++ [s]))) k)) L := by
    rw [← lsm_add]
    exact lsm_cg (fun i x _ => hc x)
  rw [e1, lsm_eq he hL (idl_s hok hw hs hd hL), lsm_map, rho_phi]
  show _ = lsm (fun x => cnv (rho n A s (Rx n A x) u) (f x) k) L + lsm (fun x => cnv (Rx n A x u) (f x) k) L
  rw [← lsm_add, ← lsm_add]
  refine lsm_cg (fun i x hx => ?_)
  have xL := (hL.2.1 i x hx).1
  have fx : f (x ++ [s] ++ [s]) = f x := hf _ _ (cx_g_sr hok hs x)
  rw [fx]
  by_cases hdx : dn n A x s
  · have nd : ¬ dn n A (x ++ [s]) s := fun h => (dn_dn hok xL hs).mp h hdx
    rw [cii_p hdx, cii_n nd, cnv_cg (fun k => Rx_dn hok xL hs hdx hu k) (fun _ => rfl) k, cnv_al (fun k => qs (Rx n A x u) k - Rx n A x u k) (qs (Rx n A (x ++ [s]) u)), cnv_sl (qs (Rx n A x u)) (Rx n A x u), cnv_ql, cnv_ql]
    omega
  · have nd : dn n A (x ++ [s]) s := (dn_dn hok xL hs).mpr hdx
    rw [cii_n hdx, cii_p nd, cnv_cg (fun k => (Rx_up hok xL hs hdx hu k).symm) (fun _ => rfl) k, Int.add_comm]
/-- the sum is the function turned over -/
def sdl (n : Nat) (A : Nat → Nat → Int) (m : Nat) (L : List (List Nat)) (f : List Nat → Nat → Int) : Prop := (∀ u, cx_L n u → ∀ k, phi n A L f u k = if cx_l n A u + k ≤ m then f u (m - cx_l n A u - k) else 0) ∧ ∀ u, cx_L n u → ∀ k, m < cx_l n A u + k → f u k = 0
theorem sdl_tau (hok : cx_ok n A) (hw : cx_L n w) (hs : s < n) (hd : dn n A w s) (hL : idl n A w L) (hf : egl n A f) {m : Nat} (h : sdl n A m L f) : sdl n A (m + 1) L (tau n A s f) := by
  obtain ⟨h1, h2⟩ := h
  refine ⟨fun u hu k => ?_, fun u hu k hk => ?_⟩
  · have usL : cx_L n (u ++ [s]) := cx_L_app hu (cx_L_1 hs)
    rw [phi_tau hok hw hs hd hL hf hu]
    by_cases hdu : dn n A u s
    · have l1 := dn_1 hok hu hs hdu
      have e1 : rho n A s (phi n A L f) u k = phi n A L f (u ++ [s]) k := cii_p hdu
      have e2 : ∀ q, tau n A s f u q = f (u ++ [s]) q + qs (f u) q := fun q => cii_p hdu
      rw [e1, h1 _ usL, h1 u hu]
      by_cases hle : cx_l n A u + k ≤ m
      · rw [if_pos (by omega), if_pos hle, if_pos (by omega), e2, show m - cx_l n A (u ++ [s]) - k = m + 1 - cx_l n A u - k by omega]
        congr 1
        rw [show m + 1 - cx_l n A u - k = (m - cx_l n A u - k) + 1 by omega]
        rfl
      · by_cases heq : cx_l n A u + k = m + 1
        · rw [if_pos (by omega), if_neg hle, if_pos (by omega), e2, show m - cx_l n A (u ++ [s]) - k = 0 by omega, show m + 1 - cx_l n A u - k = 0 by omega]
          rfl
        · rw [if_neg (by omega), if_neg hle, if_neg (by omega)]
          rfl
    · have up := up_1 hok hu hs hdu
      have e1 : rho n A s (phi n A L f) u k = qs (phi n A L f u) k - phi n A L f u k + qs (phi n A L f (u ++ [s])) k := cii_n hdu
      have e2 : ∀ q, tau n A s f u q = qs (f (u ++ [s])) q + f u q := fun q => cii_n hdu
      rw [e1, show qs (phi n A L f u) k - phi n A L f u k + qs (phi n A L f (u ++ [s])) k + phi n A L f u k = qs (phi n A L f u) k + qs (phi n A L f (u ++ [s])) k by omega]
      cases k with
      | zero =>
        show (0 : Int) + 0 = _
        by_cases hle : cx_l n A u + 0 ≤ m + 1
        · rw [if_pos hle, e2, h2 u hu _ (by omega)]
          obtain ⟨c, hc⟩ : ∃ c, m + 1 - cx_l n A u - 0 = c := ⟨_, rfl⟩
          rw [hc]
          cases c with
          | zero => rfl
          | succ c =>
            show (0 : Int) + 0 = f (u ++ [s]) c + 0
            rw [h2 _ usL c (by omega)]
        · rw [if_neg hle]
          rfl
      | succ k =>
        show phi n A L f u k + phi n A L f (u ++ [s]) k = _
        rw [h1 _ usL, h1 u hu]
        by_cases hle : cx_l n A u + k ≤ m
        · rw [if_pos hle, if_pos (show cx_l n A u + (k + 1) ≤ m + 1 by omega), e2, show m + 1 - cx_l n A u - (k + 1) = m - cx_l n A u - k by omega, Int.add_comm]
          congr 1
          by_cases hle2 : cx_l n A (u ++ [s]) + k ≤ m
          · rw [if_pos hle2, show m - cx_l n A u - k = (m - cx_l n A (u ++ [s]) - k) + 1 by omega]
            rfl
          · rw [if_neg hle2, show m - cx_l n A u - k = 0 by omega]
            rfl
        · rw [if_neg hle, if_neg (by omega), if_neg (by omega)]
          rfl
  · have usL : cx_L n (u ++ [s]) := cx_L_app hu (cx_L_1 hs)
    by_cases hdu : dn n A u s
    · have l1 := dn_1 hok hu hs hdu
      have e2 : tau n A s f u k = f (u ++ [s]) k + qs (f u) k := cii_p hdu
      rw [e2, h2 _ usL k (by omega)]
      cases k with
      | zero => rfl
      | succ k =>
        show 0 + f u k = 0
        rw [h2 u hu k (by omega)]
        rfl
    · have up := up_1 hok hu hs hdu
      have e2 : tau n A s f u k = qs (f (u ++ [s])) k + f u k := cii_n hdu
      rw [e2, h2 u hu k (by omega)]
      cases k with
      | zero => rfl
      | succ k =>
        show f (u ++ [s]) k + 0 = 0
        rw [h2 _ usL k (by omega)]
        rfl
theorem cnv_qn (a b : Nat → Int) : ∀ (j k : Nat), cnv a (qn j b) k = qn j (cnv a b) k := by
  intro j
  induction j with
  | zero => exact fun k => rfl
  | succ j ih =>
    intro k
    show cnv a (qs (qn j b)) k = qs (qn j (cnv a b)) k
    rw [cnv_qr]
    exact qs_cg ih k
theorem lsm_qn (F : List Nat → Nat → Int) : ∀ (j k : Nat), qn j (fun k => lsm (fun x => F x k) L) k = lsm (fun x => qn j (F x) k) L := by
  intro j
  induction j with
  | zero => exact fun k => rfl
  | succ j ih =>
    intro k
    show qs (qn j (fun k => lsm (fun x => F x k) L)) k = lsm (fun x => qs (qn j (F x)) k) L
    rw [qs_cg ih, lsm_qs]
theorem sdl_q {m j : Nat} (h : sdl n A m L f) : sdl n A (m + 2 * j) L (fun u => qn j (f u)) := by
  obtain ⟨h1, h2⟩ := h
  refine ⟨fun u hu k => ?_, fun u hu k hk => ?_⟩
  · have e1 : phi n A L (fun u => qn j (f u)) u k = qn j (phi n A L f u) k := by
      show lsm (fun x => cnv (Rx n A x u) (qn j (f x)) k) L = qn j (fun k => lsm (fun x => cnv (Rx n A x u) (f x) k) L) k
      rw [lsm_qn]
      exact lsm_cg (fun i x _ => cnv_qn _ _ j k)
    rw [e1, qn_at, h1 u hu]
    show _ = if cx_l n A u + k ≤ m + 2 * j then qn j (f u) (m + 2 * j - cx_l n A u - k) else 0
    rw [qn_at]
    by_cases hkj : k < j
    · rw [if_pos hkj]
      by_cases hle : cx_l n A u + k ≤ m + 2 * j
      · rw [if_pos hle]
        by_cases hm : m + 2 * j - cx_l n A u - k < j
        · rw [if_pos hm]
        · rw [if_neg hm, h2 u hu _ (by omega)]
      · rw [if_neg hle]
    · rw [if_neg hkj]
      by_cases hle : cx_l n A u + (k - j) ≤ m
      · rw [if_pos hle, if_pos (by omega), if_neg (by omega), show m + 2 * j - cx_l n A u - k - j = m - cx_l n A u - (k - j) by omega]
      · rw [if_neg hle]
        by_cases hle2 : cx_l n A u + k ≤ m + 2 * j
        · rw [if_pos hle2, if_pos (by omega)]
        · rw [if_neg hle2]
  · show qn j (f u) k = 0
    rw [qn_at]
    by_cases hkj : k < j
    · rw [if_pos hkj]
    · rw [if_neg hkj]
      exact h2 u hu _ (by omega)
theorem sdl_lin {m : Nat} (c : Int) (h : sdl n A m L f) (h' : sdl n A m L g) : sdl n A m L (fun u k => f u k + c * g u k) := by
  obtain ⟨h1, h2⟩ := h
  obtain ⟨b1, b2⟩ := h'
  refine ⟨fun u hu k => ?_, fun u hu k hk => by show f u k + c * g u k = 0; rw [h2 u hu k hk, b2 u hu k hk, Int.mul_zero]; rfl⟩
  have e1 : phi n A L (fun u k => f u k + c * g u k) u k = phi n A L f u k + c * phi n A L g u k := by
    show lsm (fun x => cnv (Rx n A x u) (fun k => f x k + c * g x k) k) L = lsm (fun x => cnv (Rx n A x u) (f x) k) L + c * lsm (fun x => cnv (Rx n A x u) (g x) k) L
    have : c * lsm (fun x => cnv (Rx n A x u) (g x) k) L = lsm (fun x => c * cnv (Rx n A x u) (g x) k) L := (cx_sum_mul _ _ _).symm
    rw [this, ← lsm_add]
    exact lsm_cg (fun i x _ => by rw [cnv_ar (Rx n A x u) (f x) (fun k => c * g x k), cnv_mr])
  rw [e1, h1 u hu, b1 u hu]
  by_cases hle : cx_l n A u + k ≤ m
  · rw [if_pos hle, if_pos hle, if_pos hle]
  · rw [if_neg hle, if_neg hle, if_neg hle, Int.mul_zero]
    rfl
end S
