/-! The class: Ideal, gather and neighbour. -/
section S
variable {l s d : Value} {tl : List hQ} {F : Nat} {I : hI} {J : hJ} {n b : Nat} {A : Nat → Nat → Int} {W : List (List Nat)} {y : List Nat}
theorem cl_id {I' : hI} {J' : hJ} (h : cl_n n A I) (hf : idf b I I' J J') (hb : 54 ≤ b) : cl_n n A I' := cl_fr h (hf 1 (by omega)).1 (hf 3 (by omega)).1
theorem kp_id {els : List (List Nat)} {I' : hI} {J' : hJ} (h : kp n A els I J) (hf : idf b I I' J J') (hb : 54 ≤ b) : kp n A els I' J' := kp_fr h (hf 8 (by omega)).1 (hf 9 (by omega)).1 (hf 10 (by omega)).1 (hf 11 (by omega)).2 (hf 12 (by omega)).2
/-- one letter -/
theorem ga_in (h : idS (hs l s d tl) b) (hb54 : 54 ≤ b) (hg : cl_n n A I) (hF : 9000 ≤ F) {w k t H : Nat} (hk : k < 8) (yL : cx_L n y) (ht : t < n) (hH : H ≤ 256) {rc39 : Nat → Int32 → Int32 → List mE → Option (Unit × List mE)} : ∀ (f x : Nat) (K : List (List Nat) × hI × hJ), x ≤ H → H < x + f → (bqI n A y k t H x K.1 ∧ (∀ (i : Nat) (u : List Nat), i < H → K.1[i]? = some u → ∃ z, z.Sublist (y.take k) ∧ cx_g n A z = cx_g n A u) ∧ shf n A K.1 (b + 5) 256 K.2.1 K.2.2 ∧ bmG n A K.1 b K.2.1 ∧ flG K.1 b K.2.1 ∧ idf b I K.2.1 J K.2.2 ∧ K.2.1 b = I b) → ∃ (W' : List (List Nat)) (I' : hI) (J' : hJ), m6_74 F rc39 f b (nI w) (nI k) (nI t) (nI H) (nI x) (mkH (hs l s d tl) K.2.1 K.2.2) = rc39 b (nI w) (nI (k + 1)) (mkH (hs l s d tl) I' J') ∧ bqI n A y k t H H W' ∧ shf n A W' (b + 5) 256 I' J' ∧ bmG n A W' b I' ∧ flG W' b I' ∧ idf b I I' J J' ∧ I' b = I b := by
  refine lpc (σ := List (List Nat) × hI × hJ) (R := Option (Unit × List mE)) (fun f x K => m6_74 F rc39 f b (nI w) (nI k) (nI t) (nI H) (nI x) (mkH (hs l s d tl) K.2.1 K.2.2)) H (fun x K => bqI n A y k t H x K.1 ∧ (∀ (i : Nat) (u : List Nat), i < H → K.1[i]? = some u → ∃ z, z.Sublist (y.take k) ∧ cx_g n A z = cx_g n A u) ∧ shf n A K.1 (b + 5) 256 K.2.1 K.2.2 ∧ bmG n A K.1 b K.2.1 ∧ flG K.1 b K.2.1 ∧ idf b I K.2.1 J K.2.2 ∧ K.2.1 b = I b) (fun r => ∃ (W' : List (List Nat)) (I' : hI) (J' : hJ), r = rc39 b (nI w) (nI (k + 1)) (mkH (hs l s d tl) I' J') ∧ bqI n A y k t H H W' ∧ shf n A W' (b + 5) 256 I' J' ∧ bmG n A W' b I' ∧ flG W' b I' ∧ idf b I I' J J' ∧ I' b = I b) ?_ ?_
  · rintro f ⟨W, I1, J1⟩ ⟨p1, _, p3, p4, p5, p6, p7⟩
    refine ⟨W, I1, J1, ?_, p1, p3, p4, p5, p6, p7⟩
    show m6_74 F rc39 (f + 1) b (nI w) (nI k) (nI t) (nI H) (nI H) (mkH (hs l s d tl) I1 J1) = _
    rw [m6_74, if_pos (show mc2 .ge (nI H) (nI H) = true by rw [c_ge (by omega) (by omega)]; omega), n_1, nI_add]
  · rintro f x ⟨W, I1, J1⟩ hx ⟨p1, p2, p3, p4, p5, p6, p7⟩
    right
    have p1 : bqI n A y k t H x W := p1
    have p3 : shf n A W (b + 5) 256 I1 J1 := p3
    have p6 : idf b I I1 J J1 := p6
    have g1 := cl_id hg p6 hb54
    have hHW := p1.2.2.2.1
    have hu := gd_ex (show x < W.length by omega)
    generalize W.getD x [] = u at hu
    have tL : cx_L n (y.take k ++ [t]) := cx_L_app (take_L yL k) (cx_L_1 ht)
    have tl8 : (y.take k ++ [t]).length ≤ 8 := by
      rw [List.length_append, List.length_take]
      show min k y.length + 1 ≤ 8
      omega
    have ul : cx_l n A u ≤ 9 := by
      have := bqS_l (p1.2.2.1 x u hu).1 (p1.2.2.1 x u hu).2 tL
      omega
    obtain ⟨W2, I2, J2, e1, r1, r2, r3, r4, r5, r6⟩ := joi_e (F := F) h hb54 g1 hF p3 p4 p5 hu ul ht (fun hnew => by
      have hq := bqI_a p1 ht hx p2 hu hnew
      have := bqS_len (y := y.take k ++ [t]) (fun i v hv => (hq.2.2.1 i v hv).2) hq.2.1 tl8
      rw [List.length_append] at this
      simp at this
      omega)
    have e0 : m6_74 F rc39 (f + 1) b (nI w) (nI k) (nI t) (nI H) (nI x) (mkH (hs l s d tl) I1 J1) = m6_74 F rc39 f b (nI w) (nI k) (nI t) (nI H) (nI (x + 1)) (mkH (hs l s d tl) I2 J2) := by
      rw [m6_74, if_neg (show ¬ mc2 .ge (nI x) (nI H) = true by rw [c_ge (by omega) (by omega)]; omega), idr h, Option.bind_some, e1, Option.bind_some, n_1, nI_add]
    have p7 : I1 b = I b := p7
    rcases r6 with ⟨rfl, m, v, m1, m2⟩ | ⟨rfl, hnew⟩
    · exact ⟨(_, I2, J2), e0, bqI_f p1 hu m1 m2, p2, r1, r2, r3, idf_tr p6 r4, r5.trans p7⟩
    · refine ⟨(_, I2, J2), e0, bqI_a p1 ht hx p2 hu hnew, fun i v hi hv => ?_, r1, r2, r3, idf_tr p6 r4, r5.trans p7⟩
      rcases ap_c hv with hv1 | ⟨hv1, _⟩
      · exact p2 i v hi hv1
      · omega
/-- gather -/
theorem ga_e (h : idS (hs l s d tl) b) (hb54 : 54 ≤ b) (hg : cl_n n A I) {els : List (List Nat)} (hk : kp n A els I J) (hb : sfb (b + 5) 256 I) (hF : 9000 ≤ F) {w : Nat} (hy : els[w]? = some y) (h8 : y.length ≤ 8) : ∃ (W : List (List Nat)) (I' : hI) (J' : hJ), e6 F b (nI w) (mkH (hs l s d tl) I J) = some ((), (mkH (hs l s d tl) I' J')) ∧ bqA n A y W ∧ shf n A W (b + 5) 256 I' J' ∧ bmT n A W b I' ∧ flG W b I' ∧ idf b I I' J J' ∧ I' b = I b := by
  have hS := h.2.2.2.2.2
  have hok := hg.1
  have hn5 := hg.2.2.1
  obtain ⟨yc, yL, yl, y20, b40, yb⟩ := kp_c hk hy
  obtain ⟨e1, s1, f1⟩ := cle_e (F := F) (n := n) (A := A) (J := J) hS hb
  generalize hI1 : upI I (b + 5) 2 (nI 0) = I1 at *
  have i1 : ∀ c, c ≠ b + 5 → I1 c = I c := fun c hc => by rw [← hI1]; exact upI_ne hc
  have g1 : cl_n n A I1 := cl_fr hg (i1 1 (by omega)) (i1 3 (by omega))
  have e2 := sw_e (l := l) (s := s) (d := d) (tl := tl) (F := F) (I := I1) (J := J) (p := 0) g1.2.2.2.1 hn5 (by omega) h.2.1 (by omega) (by omega)
  have w0 : wt n A [] (rwJ J (b + 1) 0 n (fun _ => zJ 1) (b + 1)) 0 := wt_nil
  generalize hJ1 : rwJ J (b + 1) 0 n (fun _ => zJ 1) = J1 at *
  have j1 : ∀ c, c ≠ b + 1 → J1 c = J c := fun c hc => by rw [← hJ1]; exact rwJ_ne hc
  have s2' : shf n A [] (b + 5) 256 I1 J1 := shf_J s1 (j1 _ (by omega))
  have hn62 := no_e (F := F) hS g1 s2' hF h.2.1 (by omega) (by omega) (by omega) (u := []) cx_L_nil (by rw [cx_l_nil]; omega) w0
  rw [cx_l_nil] at hn62
  rcases hn62 with ⟨m, v, m1, _⟩ | ⟨_, ⟨m2, _⟩ | ⟨m2, I3, J3, e3, m4, m5⟩⟩
  · simp at m1
  · simp at m2
  · have m4 : shf n A [[]] (b + 5) 256 I3 J3 := m4
    obtain ⟨K, k0, k1, k2, k3, k4, k5⟩ := wel_e (l := l) (s := s) (d := d) (tl := tl) (I := I3) (J := J3) h hF (x := 0) (by omega)
    have one : ∀ (i : Nat) (u : List Nat), [([] : List Nat)][i]? = some u → i = 0 ∧ u = [] := by
      intro i u hh
      cases i with
      | zero => exact ⟨rfl, (Option.some.inj hh).symm⟩
      | succ i => simp at hh
    have shK : shf n A [[]] (b + 5) 256 K J3 := by
      obtain ⟨a1, a2, a3⟩ := m4
      refine ⟨sfb_I a1 (k5 _ (by omega) (by omega)) (k5 _ (by omega) (by omega)) (k5 _ (by omega) (by omega)), sfc_I a2 (k5 _ (by omega) (by omega)) (k5 _ (by omega) (by omega)), ?_⟩
      unfold sfh at *
      rw [k5 (b + 5 + 4) (by omega) (by omega), k5 (b + 5 + 3) (by omega) (by omega)]
      exact a3
    have bmK : bmG n A [[]] b K := fun i t u hu ht => by
      obtain ⟨rfl, rfl⟩ := one i u hu
      exact Or.inl (k2 t (by omega))
    have flK : flG [[]] b K := fun i hi => by
      have : i = 0 := by simp at hi; exact hi
      rw [this]
      exact k1
    have ifK : idf b I K J J3 := fun c hc => ⟨by rw [k5 c (by omega) (by omega), m5.1 c (by omega) (by omega) (by omega) (by omega), i1 c (by omega)], by rw [m5.2 c (by omega), j1 c (by omega)]⟩
    have ibK : K b = I b := by rw [k5 b (by omega) (by omega), m5.1 b (by omega) (by omega) (by omega) (by omega), i1 b (by omega)]
    have key : ∀ (f k : Nat) (M : List (List Nat) × hI × hJ), k ≤ y.length → y.length < k + f → (bqS n A y k M.1 ∧ shf n A M.1 (b + 5) 256 M.2.1 M.2.2 ∧ bmG n A M.1 b M.2.1 ∧ flG M.1 b M.2.1 ∧ idf b I M.2.1 J M.2.2 ∧ M.2.1 b = I b) → ∃ (W : List (List Nat)) (I' : hI) (J' : hJ), m6_39 F f b (nI w) (nI k) (mkH (hs l s d tl) M.2.1 M.2.2) = some ((), (mkH (hs l s d tl) I' J')) ∧ bqS n A y y.length W ∧ shf n A W (b + 5) 256 I' J' ∧ bmG n A W b I' ∧ flG W b I' ∧ idf b I I' J J' ∧ I' b = I b := by
      refine lpc (σ := List (List Nat) × hI × hJ) (R := Option (Unit × List mE)) (fun f k M => m6_39 F f b (nI w) (nI k) (mkH (hs l s d tl) M.2.1 M.2.2)) y.length (fun k M => bqS n A y k M.1 ∧ shf n A M.1 (b + 5) 256 M.2.1 M.2.2 ∧ bmG n A M.1 b M.2.1 ∧ flG M.1 b M.2.1 ∧ idf b I M.2.1 J M.2.2 ∧ M.2.1 b = I b) (fun r => ∃ (W : List (List Nat)) (I' : hI) (J' : hJ), r = some ((), (mkH (hs l s d tl) I' J')) ∧ bqS n A y y.length W ∧ shf n A W (b + 5) 256 I' J' ∧ bmG n A W b I' ∧ flG W b I' ∧ idf b I I' J J' ∧ I' b = I b) ?_ ?_
      · rintro f ⟨W, K1, M1⟩ ⟨p1, p2, p3, p4, p5, p6⟩
        have p5 : idf b I K1 J M1 := p5
        have l10 : K1 10 w = nI y.length := by rw [(p5 10 (by omega)).1]; exact yb
        refine ⟨W, K1, M1, ?_, p1, p2, p3, p4, p5, p6⟩
        show m6_39 F (f + 1) b (nI w) (nI y.length) (mkH (hs l s d tl) K1 M1) = _
        rw [m6_39, id1 h, Option.bind_some, gr8_3, Option.bind_some, rI10 (by omega), Option.bind_some, l10, if_pos (show mc2 .ge (nI y.length) (nI y.length) = true by rw [c_ge (by omega) (by omega)]; omega)]
      · rintro f k ⟨W, K1, M1⟩ hk8 ⟨p1, p2, p3, p4, p5, p6⟩
        right
        have p1 : bqS n A y k W := p1
        have p2 : shf n A W (b + 5) 256 K1 M1 := p2
        have p5 : idf b I K1 J M1 := p5
        have l10 : K1 10 w = nI y.length := by rw [(p5 10 (by omega)).1]; exact yb
        obtain ⟨t, ht⟩ := ex_at hk8
        have htn := cx_L_at yL ht
        have kk := kp_id hk p5 hb54
        have e17 := lo_e (l := l) (s := s) (d := d) (tl := tl) (F := F) kk hy ht
        obtain ⟨W2, I2, J2, e4, r1, r2, r3, r4, r5, r6⟩ := ga_in (F := F) (I := I) (J := J) (w := w) (rc39 := m6_39 F f) h hb54 hg hF (show k < 8 by omega) yL htn p2.2.1.1 F 0 (W, K1, M1) (by omega) (by have := p2.2.1.1; omega) ⟨bqI_0 p1 t, fun i u _ hu => (p1.2.2.1 i u hu).2, p2, p3, p4, p5, p6⟩
        refine ⟨(W2, I2, J2), ?_, bqI_z r1 ht, r2, r3, r4, r5, r6⟩
        show m6_39 F (f + 1) b (nI w) (nI k) (mkH (hs l s d tl) K1 M1) = _
        rw [m6_39, id1 h, Option.bind_some, gr8_3, Option.bind_some, rI10 (by omega), Option.bind_some, l10, if_neg (show ¬ mc2 .ge (nI k) (nI y.length) = true by rw [c_ge (by omega) (by omega)]; omega), Option.bind_some, rc8, Option.bind_some, e17, Option.bind_some, id2 h, Option.bind_some, s2 hS, Option.bind_some, p2.2.1.2.1]
        exact e4
    obtain ⟨W, I', J', e5, r1, r2, r3, r4, r5, r6⟩ := key F 0 ([[]], K, J3) (by omega) (by omega) ⟨bqS_0, shK, bmK, flK, ifK, ibK⟩
    refine ⟨W, I', J', ?_, bqS_A r1, r2, fun i t u hu ht => ?_, r4, r5, r6⟩
    · show m6_0 F b (nI w) _ = _
      unfold m6_0
      rw [id2 h, Option.bind_some, sr hS, Option.bind_some, e1, Option.bind_some, id0 h, Option.bind_some, id3 h, Option.bind_some, rc1, Option.bind_some]
      show ((e40 F 1 (b + 1) (nI 0) (mkH (hs l s d tl) I1 J)).bind _) = _
      rw [e2, Option.bind_some, id2 h, Option.bind_some, id3 h, Option.bind_some, sr hS, Option.bind_some]
      show ((e62 F (b + 5) (b + 1) (nI 0) (mkH (hs l s d tl) I1 J1)).bind _) = _
      rw [e3, Option.bind_some, idr h, Option.bind_some]
      show ((e8 F b (nI 0) (mkH (hs l s d tl) I3 J3)).bind _) = _
      rw [k0, Option.bind_some]
      exact e5
    · rcases r3 i t u hu ht with hh | ⟨j, x, a1, a2, a3⟩
      · exact Or.inl hh
      · exact Or.inr (Or.inl ⟨j, x, a1, a2, a3⟩)
/-- neighbour -/
theorem nb_e (h : idS (hs l s d tl) b) (hb54 : 54 ≤ b) (hg : cl_n n A I) (hF : 9000 ≤ F) (hsh : shf n A W (b + 5) 256 I J) (hl9 : ∀ (i : Nat) (u : List Nat), W[i]? = some u → cx_l n A u ≤ 9) (hbm : bmT n A W b I) {x t : Nat} {u : List Nat} (hu : W[x]? = some u) (ht : t < n) : ∃ (v : Int32) (I' : hI) (J' : hJ), e9 F b (nI x) (nI t) (mkH (hs l s d tl) I J) = some (v, (mkH (hs l s d tl) I' J')) ∧ stpT n A W u t v ∧ bmT n A W b I' ∧ (∀ c, c ≠ b + 2 → I' c = I c) ∧ ∀ c, c ≠ b + 1 → J' c = J c := by
  have hS := h.2.2.2.2.2
  have hok := hg.1
  have hn5 := hg.2.2.1
  obtain ⟨hb, hc, hin⟩ := id hsh
  have hlen := hc.1
  have hxl := (List.getElem?_eq_some_iff.mp hu).1
  obtain ⟨uL, u31, uw, ul⟩ := hc.2.2 x u hu
  have utL : cx_L n (u ++ [t]) := cx_L_app uL (cx_L_1 ht)
  have utl : cx_l n A (u ++ [t]) ≤ 10 := by
    have := hl9 x u hu
    rcases cx_rstep hok uL ht with hh | hh <;> omega
  by_cases hne : I (b + 2) (x * 5 + t) = -2
  · have w1 : wt n A u (rwJ J (b + 1) 0 n (fun j => J (b + 5 + 1) (x * 5 + j)) (b + 1)) 0 := wt_cp uw
    have w2 := wt_turn w1 ht
    have e1 : e42 F 1 (b + 5 + 1) (nI x * 5) (b + 1) 0 (mkH (hs l s d tl) I J) = some ((), (mkH (hs l s d tl) I (rwJ J (b + 1) 0 n (fun j => J (b + 5 + 1) (x * 5 + j))))) := by
      rw [n_5, pk_mul]
      show e42 F 1 (b + 5 + 1) (nI (x * 5)) (b + 1) (nI 0) _ = _
      exact cr_e hg.2.2.2.1 hn5 (by omega) hS.2.1 h.2.1 (by omega) (by omega) (by omega) (by omega) (Or.inl (by omega))
    generalize hJ1 : rwJ J (b + 1) 0 n (fun j => J (b + 5 + 1) (x * 5 + j)) = J1 at *
    have c1 : ∀ c, c ≠ b + 1 → J1 c = J c := fun c hc => by rw [← hJ1]; exact rwJ_ne hc
    have e2 := tw_e (l := l) (s := s) (d := d) (tl := tl) (F := F) (J := J1) (p := 0) hg (by omega) h.2.1 (by omega) (by omega) ht
    generalize hJ2 : rwJ J1 (b + 1) 0 n (fun j => J1 (b + 1) (0 + j) - J1 (b + 1) (0 + t) * zJ (A j t)) = J2 at *
    have c2 : ∀ c, c ≠ b + 1 → J2 c = J c := fun c hc => by rw [← hJ2, rwJ_ne hc]; exact c1 c hc
    have sh2 : shf n A W (b + 5) 256 I J2 := shf_J hsh (c2 _ (by omega))
    have z0 : (0 : Int32) = nI 0 := rfl
    have pre : ∀ v, e63 F (b + 5) (b + 1) (mkH (hs l s d tl) I J2) = some (v, (mkH (hs l s d tl) I J2)) → e9 F b (nI x) (nI t) (mkH (hs l s d tl) I J) = if mc2 .eq v (-1) = true then m9_97 F v (mkH (hs l s d tl) (upI I (b + 2) (x * 5 + t) v) J2) else (wrI (mkH (hs l s d tl) (upI I (b + 2) (x * 5 + t) v) J2) (b + 2) ((v * 5) + nI t) (nI x)).bind fun hp22 => m9_97 F v hp22 := by
      intro v hv
      show m9_0 F b _ _ _ = _
      unfold m9_0
      rw [id4 h, Option.bind_some, n_5, pk_mul, nI_add, rdI_H h.2.2.1 (by omega) (by omega), Option.bind_some, hne, if_pos (show mc2 .eq (-2 : Int32) (-2) = true by decide), id0 h, Option.bind_some, id2 h, Option.bind_some, s3 hS, Option.bind_some, id3 h, Option.bind_some, rc1, Option.bind_some, ← pk_mul, ← n_5, e1, Option.bind_some, id0 h, Option.bind_some, id3 h, Option.bind_some, rc1, Option.bind_some, z0, e2, Option.bind_some, id2 h, Option.bind_some, id3 h, Option.bind_some, sr hS, Option.bind_some, hv, Option.bind_some, id4 h, Option.bind_some, wrI_H h.2.2.1 (by omega) (by omega), Option.bind_some, id4 h]
      rfl
    rcases fi_e (F := F) hS hg sh2 hF h.2.1 (by omega) (by omega) utL (by omega) w2 with ⟨k, v, k1, k2, e3⟩ | ⟨k1, e3⟩
    · have hkl := (List.getElem?_eq_some_iff.mp k1).1
      have st : stpT n A W u t (nI k) := Or.inl ⟨k, v, k1, k2, rfl⟩
      refine ⟨nI k, upI (upI I (b + 2) (x * 5 + t) (nI k)) (b + 2) (k * 5 + t) (nI x), J2, ?_, st, fun i j q hq hj => ?_, fun c hc => by rw [upI_ne hc, upI_ne hc], c2⟩
      · rw [pre _ e3, if_neg (show ¬ mc2 .eq (nI k) (-1) = true by rw [g_eq]; exact Ne.symm (gI_nI (k := 1) (by omega) (by omega) (by omega))), n_5, pk_mul, nI_add, wrI_H h.2.2.1 (by omega) (by omega), Option.bind_some]
        rfl
      · rw [upI_at, upI_at]
        by_cases h1 : i * 5 + j = k * 5 + t
        · rw [if_pos h1]
          have hij : i = k ∧ j = t := by omega
          obtain ⟨rfl, rfl⟩ := hij
          rw [k1] at hq
          cases hq
          refine Or.inr (Or.inl ⟨x, u, hu, ?_, rfl⟩)
          rw [cx_g_ap1 [j] k2]
          exact (cx_g_sr hok ht u).symm
        · rw [if_neg h1]
          by_cases h2 : i * 5 + j = x * 5 + t
          · rw [if_pos h2]
            have hij : i = x ∧ j = t := by omega
            obtain ⟨rfl, rfl⟩ := hij
            rw [hu] at hq
            cases hq
            exact Or.inr st
          · rw [if_neg h2]
            exact hbm i j q hq hj
    · have st : stpT n A W u t (gI 1) := Or.inr ⟨k1, rfl⟩
      refine ⟨gI 1, upI I (b + 2) (x * 5 + t) (gI 1), J2, ?_, st, fun i j q hq hj => ?_, fun c hc => upI_ne hc, c2⟩
      · rw [pre _ e3, if_pos (show mc2 .eq (gI 1) (-1) = true by decide)]
        rfl
      · rw [upI_at]
        by_cases h2 : i * 5 + j = x * 5 + t
        · rw [if_pos h2]
          have hij : i = x ∧ j = t := by omega
          obtain ⟨rfl, rfl⟩ := hij
          rw [hu] at hq
          cases hq
          exact Or.inr st
        · rw [if_neg h2]
          exact hbm i j q hq hj
  · refine ⟨I (b + 2) (x * 5 + t), I, J, ?_, (hbm x t u hu ht).elim (fun hh => absurd hh hne) id, hbm, fun _ _ => rfl, fun _ _ => rfl⟩
    show m9_0 F b _ _ _ = _
    unfold m9_0
    rw [id4 h, Option.bind_some, n_5, pk_mul, nI_add, rdI_H h.2.2.1 (by omega) (by omega), Option.bind_some, if_neg (show ¬ mc2 .eq (I (b + 2) (x * 5 + t)) (-2) = true by rw [g_eq]; exact hne)]
end S
