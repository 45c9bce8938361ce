/-! The reference: findBelow. -/
def blP (n : Nat) (A : Nat → Nat → Int) (W : List (List Nat)) (I : hI) (J : hJ) : Prop := sqs n A W J 45 ∧ (∀ (i : Nat) (u : List Nat), W[i]? = some u → I 46 i = nI (cx_l n A u)) ∧ I 26 31 = nI W.length
def bfr (I I' : hI) (J J' : hJ) : Prop := (∀ c, c ≠ 26 → c ≠ 46 → c ≠ 47 → c ≠ 48 → I' c = I c) ∧ (∀ f, f ≠ 31 → I' 26 f = I 26 f) ∧ ∀ c, c ≠ 32 → c ≠ 45 → J' c = J c
theorem bfr_rf (I : hI) (J : hJ) : bfr I I J J := ⟨fun _ _ _ _ _ => rfl, fun _ _ => rfl, fun _ _ _ => rfl⟩
theorem bfr_tr {I I' I'' : hI} {J J' J'' : hJ} (h : bfr I I' J J') (h' : bfr I' I'' J' J'') : bfr I I'' J J'' := ⟨fun c a1 a2 a3 a4 => (h'.1 c a1 a2 a3 a4).trans (h.1 c a1 a2 a3 a4), fun f hf => (h'.2.1 f hf).trans (h.2.1 f hf), fun c a1 a2 => (h'.2.2 c a1 a2).trans (h.2.2 c a1 a2)⟩
/-- where u, t stands -/
def stpT (n : Nat) (A : Nat → Nat → Int) (W : List (List Nat)) (u : List Nat) (t : Nat) (v : Int32) : Prop := (∃ (j : Nat) (x : List Nat), W[j]? = some x ∧ cx_g n A x = cx_g n A (u ++ [t]) ∧ v = nI j) ∨ ((∀ (j : Nat) (x : List Nat), W[j]? = some x → cx_g n A x ≠ cx_g n A (u ++ [t])) ∧ v = gI 1)
def dwnT (n : Nat) (A : Nat → Nat → Int) (u : List Nat) (t : Nat) (v : Int32) : Prop := (dn n A u t ∧ v = nI 1) ∨ (¬ dn n A u t ∧ v = nI 0)
section S
variable {l s d : Value} {tl : List hQ} {F : Nat} {I : hI} {J : hJ} {n : Nat} {A : Nat → Nat → Int} {y : List Nat} {W : List (List Nat)}
theorem mo_bf {I' : hI} {J' : hJ} (h : mo_n n A I) (hb : bfr I I' J J') : mo_n n A I' := mo_fr h (hb.2.1 0 (by decide)) (hb.1 28 (by decide) (by decide) (by decide) (by decide))
theorem bqS_p {k : Nat} (h : bqS n A y k W) : W.length ≤ 2 ^ k := by
  refine Nat.le_trans (pgl h.2.1 (S := als (y.take k)) (fun i u hu => ?_)) ?_
  · obtain ⟨_, z, a1, a2⟩ := h.2.2.1 i u hu
    exact ⟨z, als_sub a1, a2⟩
  · rw [als_len]
    exact Nat.pow_le_pow_right (by omega) (by rw [List.length_take]; omega)
/-- one letter -/
theorem fb_in (hM : mo_n n A I) (hF : 9000 ≤ F) {w k t H : Nat} (hk : k < 8) (yL : cx_L n y) (ht : t < n) (hH : H ≤ 128) {rc31 : Nat → Int32 → Int32 → List mE → Option (Unit × List mE)} : ∀ (f b : Nat) (K : List (List Nat) × hI × hJ), b ≤ H → H < b + f → (bqI n A y k t H b K.1 ∧ (∀ (i : Nat) (u : List Nat), i < H → K.1[i]? = some u → ∃ z, z.Sublist (y.take k) ∧ cx_g n A z = cx_g n A u) ∧ K.1.length ≤ H + b ∧ blP n A K.1 K.2.1 K.2.2 ∧ bfr I K.2.1 J K.2.2) → ∃ (W' : List (List Nat)) (I' : hI) (J' : hJ), m198_62 F rc31 f 26 (nI w) (nI k) (nI t) (nI H) (nI b) (mkH (hs l s d tl) K.2.1 K.2.2) = rc31 26 (nI w) (nI (k + 1)) (mkH (hs l s d tl) I' J') ∧ bqI n A y k t H H W' ∧ blP n A W' I' J' ∧ bfr I I' J J' := by
  have hok := hM.1
  have hn5 := hM.2.2.1
  refine lpc (σ := List (List Nat) × hI × hJ) (R := Option (Unit × List mE)) (fun f b K => m198_62 F rc31 f 26 (nI w) (nI k) (nI t) (nI H) (nI b) (mkH (hs l s d tl) K.2.1 K.2.2)) H (fun b K => bqI n A y k t H b K.1 ∧ (∀ (i : Nat) (u : List Nat), i < H → K.1[i]? = some u → ∃ z, z.Sublist (y.take k) ∧ cx_g n A z = cx_g n A u) ∧ K.1.length ≤ H + b ∧ blP n A K.1 K.2.1 K.2.2 ∧ bfr I K.2.1 J K.2.2) (fun r => ∃ (W' : List (List Nat)) (I' : hI) (J' : hJ), r = rc31 26 (nI w) (nI (k + 1)) (mkH (hs l s d tl) I' J') ∧ bqI n A y k t H H W' ∧ blP n A W' I' J' ∧ bfr I I' J J') ?_ ?_
  · rintro f ⟨W, I1, J1⟩ ⟨p1, p2, p3, p4, p5⟩
    refine ⟨W, I1, J1, ?_, p1, p4, p5⟩
    show m198_62 F rc31 (f + 1) 26 (nI w) (nI k) (nI t) (nI H) (nI H) (mkH (hs l s d tl) I1 J1) = _
    rw [m198_62, if_pos (show mc2 .ge (nI H) (nI H) = true by rw [c_ge (by omega) (by omega)]; omega), n_1, nI_add]
  · rintro f b ⟨W, I1, J1⟩ hb ⟨p1, p2, p3, p4, p5⟩
    right
    have p1 : bqI n A y k t H b W := p1
    have p3 : W.length ≤ H + b := p3
    have p4 : blP n A W I1 J1 := p4
    have p5 : bfr I I1 J J1 := p5
    have hM1 := mo_bf hM p5
    have hHW := p1.2.2.2.1
    have hu := gd_ex (show b < W.length by omega)
    generalize W.getD b [] = u at hu
    have uL := (p1.2.2.1 b u hu).1
    have lens : ∀ (i : Nat) (v : List Nat), W[i]? = some v → cx_l n A v ≤ 9 := fun i v hv => by
      obtain ⟨a1, a2⟩ := p1.2.2.1 i v hv
      have := bqS_l (y := y.take k ++ [t]) a1 a2 (cx_L_app (take_L yL k) (cx_L_1 ht))
      rw [List.length_append, List.length_take] at this
      simp at this
      omega
    have ul := lens b u hu
    have e25 : (25 : Int32) * nI b = nI (25 * b) := by rw [n_25, pk_mul]
    have e2 := cp_e (l := l) (s := s) (d := d) (tl := tl) (F := F) (I := I1) (J := J1) (o := 25 * b) (p := 0) (by omega) q45 q32 (by omega) (by omega) (by omega) (by omega) (by decide)
    have q2 : sq n A u (rwJ J1 32 0 25 (fun q => J1 45 (25 * b + q)) 32) 0 := sq_cp (p4.1 b u hu)
    generalize hJ2 : rwJ J1 32 0 25 (fun q => J1 45 (25 * b + q)) = J2 at *
    have c2 : ∀ c, c ≠ 32 → J2 c = J1 c := fun c hc => by rw [← hJ2]; exact rwJ_ne hc
    obtain ⟨J3, e3, q3, c3⟩ := th_e (l := l) (s := s) (d := d) (tl := tl) (F := F) (J := J2) hM1 (by omega) ht uL q2
    have c3' : ∀ c, c ≠ 32 → J3 c = J1 c := fun c hc => (c3 c hc).trans (c2 c hc)
    have utL : cx_L n (u ++ [t]) := cx_L_app uL (cx_L_1 ht)
    have utl : cx_l n A (u ++ [t]) ≤ 10 := by rcases cx_rstep hok uL ht with h | h <;> omega
    have cmp : ∀ m v, W[m]? = some v → ((∀ q, q < 25 → J3 32 (0 + q) = J3 45 (25 * m + q)) ↔ cx_g n A (u ++ [t]) = cx_g n A v) := by
      intro m v hv
      exact sq_un hok hn5 utL (p1.2.2.1 m v hv).1 (by omega) (by have := lens m v hv; omega) q3 (by rw [c3' 45 (by decide)]; exact p4.1 m v hv)
    have esz : ∃ z : Int32, nI (cx_l n A u) + z = nI (cx_l n A (u ++ [t])) ∧ m198_62 F rc31 (f + 1) 26 (nI w) (nI k) (nI t) (nI H) (nI b) (mkH (hs l s d tl) I1 J1) = m198_110 F rc31 (m198_62 F rc31 f) 26 (nI w) (nI k) (nI t) (nI H) (nI b) (nI (cx_l n A u)) z (mkH (hs l s d tl) I1 J2) := by
      rcases idq_e (l := l) (s := s) (d := d) (tl := tl) (F := F) (I := I1) (J := J2) hok hn5 (by omega) q32 (by omega) ht (by omega) uL (by omega) q2 with ⟨e1, hd⟩ | ⟨e1, hd⟩
      · refine ⟨-1, ?_, ?_⟩
        · rw [← dn_1 hok uL ht hd]
          exact nI_am1 _
        · rw [m198_62, if_neg (show ¬ mc2 .ge (nI b) (nI H) = true by rw [c_ge (by omega) (by omega)]; omega), gr26_32, Option.bind_some, gr26_13, Option.bind_some, e25]
          show ((e177 F 45 (nI (25 * b)) 32 (nI 0) (mkH (hs l s d tl) I1 J1)).bind _) = _
          rw [e2, Option.bind_some, gr26_33, Option.bind_some, rI46 (by omega), Option.bind_some, gr26_13, Option.bind_some, p4.2.1 b u hu]
          show ((e157 F 32 (nI 0) (nI t) (mkH (hs l s d tl) I1 J2)).bind _) = _
          rw [e1, Option.bind_some, if_neg (show ¬ mc1 .eq (nI 1) = true by decide)]
      · refine ⟨1, ?_, ?_⟩
        · rw [up_1 hok uL ht hd, n_1, nI_add]
        · rw [m198_62, if_neg (show ¬ mc2 .ge (nI b) (nI H) = true by rw [c_ge (by omega) (by omega)]; omega), gr26_32, Option.bind_some, gr26_13, Option.bind_some, e25]
          show ((e177 F 45 (nI (25 * b)) 32 (nI 0) (mkH (hs l s d tl) I1 J1)).bind _) = _
          rw [e2, Option.bind_some, gr26_33, Option.bind_some, rI46 (by omega), Option.bind_some, gr26_13, Option.bind_some, p4.2.1 b u hu]
          show ((e157 F 32 (nI 0) (nI t) (mkH (hs l s d tl) I1 J2)).bind _) = _
          rw [e1, Option.bind_some, if_pos (show mc1 .eq (nI 0) = true by decide)]
    obtain ⟨z, hz, e0⟩ := esz
    have e110 : ∀ (m : Nat) (J4 : hJ), m < 256 → e178 F 26 45 (nI W.length) (mkH (hs l s d tl) I1 J3) = some (nI m, (mkH (hs l s d tl) I1 J4)) → m198_62 F rc31 (f + 1) 26 (nI w) (nI k) (nI t) (nI H) (nI b) (mkH (hs l s d tl) I1 J1) = m198_62 F rc31 f 26 (nI w) (nI k) (nI t) (nI H) (nI (b + 1)) (mkH (hs l s d tl) (upI (upI I1 46 m (nI (cx_l n A (u ++ [t])))) 26 31 (nI (W.length + if m = W.length then 1 else 0))) J4) := by
      intro m J4 hm he
      have h31 : upI I1 46 m (nI (cx_l n A (u ++ [t]))) 26 31 = nI W.length := by rw [upI_ne (by decide), p4.2.2]
      rw [e0]
      unfold m198_110
      rw [rc26, Option.bind_some, e3, Option.bind_some, gr26_32, Option.bind_some, gi26_31, Option.bind_some, p4.2.2, rc26, Option.bind_some, he, Option.bind_some, gr26_33, Option.bind_some, hz, wI46 (by omega), Option.bind_some, gi26_31, Option.bind_some, Option.bind_some, h31]
      unfold m198_160
      by_cases hmw : m = W.length
      · rw [if_neg (show ¬ mc2 .ne (nI m) (nI W.length) = true by rw [c_ne (by omega) (by omega)]; exact fun hh => hh hmw), if_pos hmw, n_1, nI_add, nI_add, pi26_31, Option.bind_some]
      · rw [if_pos (show mc2 .ne (nI m) (nI W.length) = true by rw [c_ne (by omega) (by omega)]; exact hmw), if_neg hmw, n_1, nI_add]
        rw [show (0 : Int32) = nI 0 from rfl, nI_add, pi26_31, Option.bind_some]
    rcases ps_e (l := l) (s := s) (d := d) (tl := tl) (F := F) (I := I1) (J := J3) (b := 45) (m := W.length) (by omega) q45 (by omega) (by omega) (by decide) with ⟨m, hm, e4, hs4⟩ | ⟨e4, hs4⟩
    · have hv := gd_ex hm
      generalize W.getD m [] = v at hv
      have hg := (cmp m v hv).mp hs4
      refine ⟨(W, upI (upI I1 46 m (nI (cx_l n A (u ++ [t])))) 26 31 (nI (W.length + if m = W.length then 1 else 0)), J3), e110 m J3 (by omega) e4, bqI_f p1 hu hv hg.symm, p2, by show W.length ≤ H + (b + 1); omega, ⟨fun i x hx => ?_, fun i x hx => ?_, ?_⟩, ⟨fun c a1 a2 a3 a4 => ?_, fun g hgf => ?_, fun c a1 a2 => ?_⟩⟩
      · show sq n A x (J3 45) (25 * i)
        rw [c3' 45 (by decide)]
        exact p4.1 i x hx
      · show upI (upI I1 46 m (nI (cx_l n A (u ++ [t])))) 26 31 (nI (W.length + if m = W.length then 1 else 0)) 46 i = _
        rw [upI_ne (by decide), upI_at]
        by_cases him : i = m
        · subst him
          rw [if_pos rfl]
          rw [hv] at hx
          cases hx
          rw [cx_l_eq hg]
        · rw [if_neg him]
          exact p4.2.1 i x hx
      · show upI (upI I1 46 m (nI (cx_l n A (u ++ [t])))) 26 31 (nI (W.length + if m = W.length then 1 else 0)) 26 31 = _
        rw [upI_at, if_pos rfl, if_neg (by omega)]
        rfl
      · show upI (upI I1 46 m (nI (cx_l n A (u ++ [t])))) 26 31 (nI (W.length + if m = W.length then 1 else 0)) c = _
        rw [upI_ne a1, upI_ne a2]
        exact p5.1 c a1 a2 a3 a4
      · show upI (upI I1 46 m (nI (cx_l n A (u ++ [t])))) 26 31 (nI (W.length + if m = W.length then 1 else 0)) 26 g = _
        rw [upI_at, if_neg hgf, upI_ne (by decide)]
        exact p5.2.1 g hgf
      · show J3 c = _
        rw [c3' c a1]
        exact p5.2.2 c a1 a2
    · have hnew : ∀ (m : Nat) (v : List Nat), W[m]? = some v → cx_g n A v ≠ cx_g n A (u ++ [t]) := fun m v hv hg => hs4 m (List.getElem?_eq_some_iff.mp hv).1 ((cmp m v hv).mpr hg.symm)
      have q4 : sq n A (u ++ [t]) (rwJ J3 45 (25 * W.length) 25 (fun q => J3 32 (0 + q)) 45) (25 * W.length) := sq_cp q3
      have q5 : ∀ a x, W[a]? = some x → sq n A x (rwJ J3 45 (25 * W.length) 25 (fun q => J3 32 (0 + q)) 45) (25 * a) := by
        intro a x hx i' k' hi' hk'
        have hal := (List.getElem?_eq_some_iff.mp hx).1
        rw [rwJ_out (Or.inl (by omega)), c3' 45 (by decide)]
        exact p4.1 a x hx i' k' hi' hk'
      generalize hJ4 : rwJ J3 45 (25 * W.length) 25 (fun q => J3 32 (0 + q)) = J4 at *
      have c4 : ∀ c, c ≠ 32 → c ≠ 45 → J4 c = J1 c := fun c hc hc' => by rw [← hJ4, rwJ_ne hc']; exact c3' c hc
      have len' : (W ++ [u ++ [t]]).length = W.length + 1 := by rw [List.length_append]; rfl
      refine ⟨(W ++ [u ++ [t]], upI (upI I1 46 W.length (nI (cx_l n A (u ++ [t])))) 26 31 (nI (W.length + if W.length = W.length then 1 else 0)), J4), e110 W.length J4 (by omega) e4, bqI_a p1 ht hb p2 hu hnew, fun i x hi hx => ?_, by show (W ++ [u ++ [t]]).length ≤ H + (b + 1); omega, ⟨fun i x hx => ?_, fun i x hx => ?_, ?_⟩, ⟨fun c a1 a2 a3 a4 => ?_, fun g hgf => ?_, fun c a1 a2 => ?_⟩⟩
      · rcases ap_c hx with hx1 | ⟨hx1, _⟩
        · exact p2 i x hi hx1
        · omega
      · show sq n A x (J4 45) (25 * i)
        rcases ap_c hx with hx | ⟨rfl, rfl⟩
        · exact q5 i x hx
        · exact q4
      · show upI (upI I1 46 W.length (nI (cx_l n A (u ++ [t])))) 26 31 (nI (W.length + if W.length = W.length then 1 else 0)) 46 i = _
        rw [upI_ne (by decide), upI_at]
        rcases ap_c hx with hx | ⟨rfl, rfl⟩
        · have := (List.getElem?_eq_some_iff.mp hx).1
          rw [if_neg (by omega)]
          exact p4.2.1 i x hx
        · rw [if_pos rfl]
      · show upI (upI I1 46 W.length (nI (cx_l n A (u ++ [t])))) 26 31 (nI (W.length + if W.length = W.length then 1 else 0)) 26 31 = nI (W ++ [u ++ [t]]).length
        rw [len', if_pos (show W.length = W.length from rfl), upI_at, if_pos (show (31 : Nat) = 31 from rfl)]
      · show upI (upI I1 46 W.length (nI (cx_l n A (u ++ [t])))) 26 31 (nI (W.length + if W.length = W.length then 1 else 0)) c = _
        rw [upI_ne a1, upI_ne a2]
        exact p5.1 c a1 a2 a3 a4
      · show upI (upI I1 46 W.length (nI (cx_l n A (u ++ [t])))) 26 31 (nI (W.length + if W.length = W.length then 1 else 0)) 26 g = _
        rw [upI_at, if_neg hgf, upI_ne (by decide)]
        exact p5.2.1 g hgf
      · show J4 c = _
        rw [c4 c a1 a2]
        exact p5.2.2 c a1 a2
/-- find -/
theorem fd_e (hok : cx_ok n A) (hn5 : n ≤ 5) (hF : 9000 ≤ F) (hl : ∀ (i : Nat) (u : List Nat), W[i]? = some u → cx_L n u ∧ cx_l n A u ≤ 9) (h256 : W.length ≤ 256) (hs5 : sqs n A W J 45) (hm : I 26 31 = nI W.length) {x : List Nat} (hx : cx_L n x) (hxl : cx_l n A x ≤ 31) (hq : sq n A x (J 32) 0) : (∃ (j : Nat) (v : List Nat), W[j]? = some v ∧ cx_g n A v = cx_g n A x ∧ e199 F 26 (mkH (hs l s d tl) I J) = some (nI j, (mkH (hs l s d tl) I J))) ∨ ((∀ (j : Nat) (v : List Nat), W[j]? = some v → cx_g n A v ≠ cx_g n A x) ∧ e199 F 26 (mkH (hs l s d tl) I J) = some (gI 1, (mkH (hs l s d tl) I J))) := by
  have e0 : e199 F 26 (mkH (hs l s d tl) I J) = m199_2 F F 26 (nI 0) (mkH (hs l s d tl) I J) := rfl
  rw [e0]
  refine lpc (σ := Unit) (R := Option (Int32 × List mE)) (fun f j _ => m199_2 F f 26 (nI j) (mkH (hs l s d tl) I J)) W.length (fun j _ => ∀ (i : Nat) (v : List Nat), i < j → W[i]? = some v → cx_g n A v ≠ cx_g n A x) (fun r => (∃ (j : Nat) (v : List Nat), W[j]? = some v ∧ cx_g n A v = cx_g n A x ∧ r = some (nI j, (mkH (hs l s d tl) I J))) ∨ ((∀ (j : Nat) (v : List Nat), W[j]? = some v → cx_g n A v ≠ cx_g n A x) ∧ r = some (gI 1, (mkH (hs l s d tl) I J)))) ?_ ?_ F 0 () (by omega) (by omega) (fun i v hi => by omega)
  · intro f _ hno
    right
    refine ⟨fun j v hv => hno j v (List.getElem?_eq_some_iff.mp hv).1 hv, ?_⟩
    show m199_2 F (f + 1) 26 (nI W.length) (mkH (hs l s d tl) I J) = _
    rw [m199_2, gi26_31, Option.bind_some, hm, if_pos (show mc2 .ge (nI W.length) (nI W.length) = true by rw [c_ge (by omega) (by omega)]; omega)]
    rfl
  · intro f j _ hj hno
    have hv := gd_ex hj
    generalize W.getD j [] = v at hv
    have e25 : (25 : Int32) * nI j = nI (25 * j) := by rw [n_25, pk_mul]
    have un := sq_un hok hn5 hx (hl j v hv).1 hxl (by have := (hl j v hv).2; omega) hq (hs5 j v hv)
    rcases im_s (l := l) (s := s) (d := d) (tl := tl) (F := F) (I := I) (J := J) (a := 32) (b := 45) (o := 0) (p := 25 * j) (by omega) q32 q45 (by omega) (by omega) (by omega) (by omega) with ⟨e1, h1⟩ | ⟨e1, h1⟩
    · left
      left
      refine ⟨j, v, hv, (un.mp h1).symm, ?_⟩
      show m199_2 F (f + 1) 26 (nI j) (mkH (hs l s d tl) I J) = _
      rw [m199_2, gi26_31, Option.bind_some, hm, if_neg (show ¬ mc2 .ge (nI j) (nI W.length) = true by rw [c_ge (by omega) (by omega)]; omega), gr26_13, Option.bind_some, gr26_32, Option.bind_some, e25]
      show ((e176 F 32 (nI 0) 45 (nI (25 * j)) (mkH (hs l s d tl) I J)).bind _) = _
      rw [e1, Option.bind_some, if_neg (show ¬ mc1 .eq (nI 1) = true by decide)]
    · right
      refine ⟨(), ?_, fun i z hi hz => ?_⟩
      · show m199_2 F (f + 1) 26 (nI j) (mkH (hs l s d tl) I J) = _
        rw [m199_2, gi26_31, Option.bind_some, hm, if_neg (show ¬ mc2 .ge (nI j) (nI W.length) = true by rw [c_ge (by omega) (by omega)]; omega), gr26_13, Option.bind_some, gr26_32, Option.bind_some, e25]
        show ((e176 F 32 (nI 0) 45 (nI (25 * j)) (mkH (hs l s d tl) I J)).bind _) = _
        rw [e1, Option.bind_some, if_pos (show mc1 .eq (nI 0) = true by decide), n_1, nI_add]
      · by_cases hij : i = j
        · subst hij
          rw [hv] at hz
          cases hz
          exact fun hg => h1 (un.mpr hg.symm)
        · exact hno i z (by omega) hz
end S
