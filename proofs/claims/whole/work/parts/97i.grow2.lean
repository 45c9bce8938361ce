/-! The class: countElements. -/
/-- the cells that Layers may change when it counts elements, but for its own fields -/
def lyg (b : Nat) (I I' : hI) (J J' : hJ) : Prop := (∀ c, c ≠ b + 3 → c ≠ b + 4 → c ≠ b + 6 → I' c = I c) ∧ ∀ c, c ≠ b + 1 → c ≠ b + 5 → J' c = J c
theorem lyg_tr {b : Nat} {I I' I'' : hI} {J J' J'' : hJ} (h : lyg b I I' J J') (h' : lyg b I' I'' J' J'') : lyg b I I'' J J'' := ⟨fun c a1 a2 a3 => (h'.1 c a1 a2 a3).trans (h.1 c a1 a2 a3), fun c a1 a2 => (h'.2 c a1 a2).trans (h.2 c a1 a2)⟩
def gcP (n : Nat) (A : Nat → Nat → Int) (b : Nat) (I : hI) (J : hJ) (W : List (List Nat)) (I' : hI) (J' : hJ) : Prop := sfb (b + 4) 4096 I' ∧ sfc n A W (b + 4) 4096 I' J' ∧ (∀ k, k < 32 → I' (b + 3) k = nI (cnt n A k W)) ∧ lyg b I I' J J'
section S
variable {l s d : Value} {tl : List hQ} {F : Nat} {I : hI} {J : hJ} {n b : Nat} {A : Nat → Nat → Int}
theorem sfc_J {q M : Nat} {ws : List (List Nat)} {J' : hJ} (h : sfc n A ws q M I J) (e : J' (q + 1) = J (q + 1)) : sfc n A ws q M I J' := by
  unfold sfc at *
  rw [e]
  exact h
theorem sfc_I {q M : Nat} {ws : List (List Nat)} {I' : hI} (h : sfc n A ws q M I J) (e : I' q = I q) (e2 : I' (q + 2) = I (q + 2)) : sfc n A ws q M I' J := by
  unfold sfc at *
  rw [e, e2]
  exact h
theorem sfb_I {q M : Nat} {I' : hI} (h : sfb q M I) (e : I' q = I q) (e3 : I' (q + 3) = I (q + 3)) (e4 : I' (q + 4) = I (q + 4)) : sfb q M I' := by
  unfold sfb at *
  rw [e, e3, e4]
  exact h
theorem pg_in (h : lyS (hs l s d tl) b) (hg : cl_n n A I) (hF : 9000 ≤ F) {K i : Nat} (hK : K ≤ 31) {v : List Nat} (hvl : cx_l n A v < K) : ∀ (f t : Nat) (x : hI × hJ), t ≤ n → n < t + f → (∃ W, gqI n A K W i t ∧ gcP n A b I J W x.1 x.2 ∧ W[i]? = some v ∧ W.length ≤ 2000 + t) → ∃ (I' : hI) (J' : hJ) (W : List (List Nat)), m28_14 F f b (nI i) (nI (cx_l n A v + 1)) (nI t) (mkH (hs l s d tl) x.1 x.2) = some ((), (mkH (hs l s d tl) I' J')) ∧ gqI n A K W i n ∧ gcP n A b I J W I' J' ∧ W[i]? = some v ∧ W.length ≤ 2000 + n := by
  have hS := h.2.2.2.2
  have b54 := hS.2.2.2.2.2.1
  have hok := hg.1
  have hn1 := hg.2.1
  have hn5 := hg.2.2.1
  refine lpc (σ := hI × hJ) (R := Option (Unit × List mE)) (fun f t x => m28_14 F f b (nI i) (nI (cx_l n A v + 1)) (nI t) (mkH (hs l s d tl) x.1 x.2)) n (fun t x => ∃ W, gqI n A K W i t ∧ gcP n A b I J W x.1 x.2 ∧ W[i]? = some v ∧ W.length ≤ 2000 + t) (fun r => ∃ (I' : hI) (J' : hJ) (W : List (List Nat)), r = some ((), (mkH (hs l s d tl) I' J')) ∧ gqI n A K W i n ∧ gcP n A b I J W I' J' ∧ W[i]? = some v ∧ W.length ≤ 2000 + n) ?_ ?_
  · rintro f ⟨I1, J1⟩ ⟨W, p0, ⟨p1, p2, p3, p4⟩, p5, p6⟩
    have g1 : cl_n n A I1 := cl_fr hg (p4.1 1 (by omega) (by omega) (by omega)) (p4.1 3 (by omega) (by omega) (by omega))
    refine ⟨I1, J1, W, ?_, p0, ⟨p1, p2, p3, p4⟩, p5, p6⟩
    show m28_14 F (f + 1) b (nI i) (nI (cx_l n A v + 1)) (nI n) (mkH (hs l s d tl) I1 J1) = _
    rw [m28_14, ly0 h, Option.bind_some, gi1_0, Option.bind_some, g1.2.2.2.1, if_pos (show mc2 .ge (nI n) (nI n) = true by rw [c_ge (by omega) (by omega)]; omega)]
  · rintro f t ⟨I1, J1⟩ ht ⟨W, p0, ⟨p1, p2, p3, p4⟩, p5, p6⟩
    right
    have p1 : sfb (b + 4) 4096 I1 := p1
    have p2 : sfc n A W (b + 4) 4096 I1 J1 := p2
    have p3 : ∀ k, k < 32 → I1 (b + 3) k = nI (cnt n A k W) := p3
    have p4 : lyg b I I1 J J1 := p4
    have g1 : cl_n n A I1 := cl_fr hg (p4.1 1 (by omega) (by omega) (by omega)) (p4.1 3 (by omega) (by omega) (by omega))
    have hil := (List.getElem?_eq_some_iff.mp p5).1
    have hWl := p2.1
    obtain ⟨vL, _⟩ := p0.2.2.1 i v p5
    have e9 : ∀ hp, m28_123 F (m28_14 F f) b (nI i) (nI (cx_l n A v + 1)) (nI t) hp = m28_14 F f b (nI i) (nI (cx_l n A v + 1)) (nI (t + 1)) hp := by
      intro hp
      unfold m28_123
      rw [n_1, nI_add]
    rcases ib_e (F := F) hS hok hn5 p2 p5 ht with ⟨e1, hd⟩ | ⟨e1, hd⟩
    · refine ⟨(I1, J1), ?_, W, gqI_n p0 p5 (Or.inl hd), ⟨p1, p2, p3, p4⟩, p5, by omega⟩
      show m28_14 F (f + 1) b (nI i) (nI (cx_l n A v + 1)) (nI t) (mkH (hs l s d tl) I1 J1) = _
      rw [m28_14, ly0 h, Option.bind_some, gi1_0, Option.bind_some, g1.2.2.2.1, if_neg (show ¬ mc2 .ge (nI t) (nI n) = true by rw [c_ge (by omega) (by omega)]; omega), ly2 h, Option.bind_some, sr hS, Option.bind_some, e1, Option.bind_some, if_neg (show ¬ mc1 .eq (nI 1) = true by decide), e9]
    · have vw := (p2.2.2 i v p5).2.2.1
      have w1 : wt n A v (rwJ J1 (b + 1) 0 n (fun j => J1 (b + 4 + 1) (i * 5 + j)) (b + 1)) 0 := wt_cp vw
      have w2 := wt_turn w1 ht
      have e2 : e42 F 1 (b + 4 + 1) (nI i * 5) (b + 1) 0 (mkH (hs l s d tl) I1 J1) = some ((), (mkH (hs l s d tl) I1 (rwJ J1 (b + 1) 0 n (fun j => J1 (b + 4 + 1) (i * 5 + j))))) := by
        rw [n_5, pk_mul]
        show e42 F 1 (b + 4 + 1) (nI (i * 5)) (b + 1) (nI 0) _ = _
        exact cr_e g1.2.2.2.1 hn5 (by omega) hS.2.1 h.2.1 (by omega) (by omega) (by omega) (by omega) (Or.inl (by omega))
      generalize hJ2 : rwJ J1 (b + 1) 0 n (fun j => J1 (b + 4 + 1) (i * 5 + j)) = J2 at *
      have c2 : ∀ c, c ≠ b + 1 → J2 c = J1 c := fun c hc => by rw [← hJ2]; exact rwJ_ne hc
      have e3 := tw_e (l := l) (s := s) (d := d) (tl := tl) (F := F) (I := I1) (J := J2) (p := 0) g1 (by omega) h.2.1 (by omega) (by omega) ht
      generalize hJ3 : rwJ J2 (b + 1) 0 n (fun j => J2 (b + 1) (0 + j) - J2 (b + 1) (0 + t) * zJ (A j t)) = J3 at *
      have c3 : ∀ c, c ≠ b + 1 → J3 c = J1 c := fun c hc => by rw [← hJ3, rwJ_ne hc]; exact c2 c hc
      have s3' : sfc n A W (b + 4) 4096 I1 J3 := sfc_J p2 (c3 _ (by omega))
      have vtL : cx_L n (v ++ [t]) := cx_L_app vL (cx_L_1 ht)
      have vtl := up_1 hok vL ht hd
      obtain ⟨r, e5, hr⟩ := lb_e (l := l) (s := s) (d := d) (tl := tl) (F := F) (I := I1) (J := J3) (o := 0) g1.2.2.2.1 hn5 (by omega) h.2.1 (by omega) (by omega) (all32 n hn5)
      have e4 := am_e (l := l) (s := s) (d := d) (tl := tl) (F := F) (I := I1) (J := J3) g1.2.2.2.1 hn5 hn1
      have dnq : ∀ j, j < n → ((J3 (b + 1) (0 + j) < 0 ∧ (2 ^ n - 1) / 2 ^ j % 2 = 1) ↔ dn n A (v ++ [t]) j) := fun j hj => by
        rw [wt_dn hok vtL (by omega) w2 hj]
        exact ⟨fun hh => hh.1, fun hh => ⟨hh, allbit n hn5 j hj⟩⟩
      have e0 : m28_14 F (f + 1) b (nI i) (nI (cx_l n A v + 1)) (nI t) (mkH (hs l s d tl) I1 J1) = if mc2 .ne r (nI t) = true then m28_123 F (m28_14 F f) b (nI i) (nI (cx_l n A v + 1)) (nI t) (mkH (hs l s d tl) I1 J3) else (e64 F (b + 4) (b + 1) (nI (cx_l n A v + 1)) (mkH (hs l s d tl) I1 J3)).bind fun q28 => if mc1 .eq q28.1 = true then m28_123 F (m28_14 F f) b (nI i) (nI (cx_l n A v + 1)) (nI t) q28.2 else (gfr 2 5 q28.2 b).bind fun x31 => (rdI q28.2 x31 (nI (cx_l n A v + 1))).bind fun x32 => (wrI q28.2 x31 (nI (cx_l n A v + 1)) (x32 + 1)).bind fun hp33 => m28_123 F (m28_14 F f) b (nI i) (nI (cx_l n A v + 1)) (nI t) hp33 := by
        rw [m28_14, ly0 h, Option.bind_some, gi1_0, Option.bind_some, g1.2.2.2.1, if_neg (show ¬ mc2 .ge (nI t) (nI n) = true by rw [c_ge (by omega) (by omega)]; omega), ly2 h, Option.bind_some, sr hS, Option.bind_some, e1, Option.bind_some, if_pos (show mc1 .eq (nI 0) = true by decide), ly0 h, Option.bind_some, ly2 h, Option.bind_some, s3 hS, Option.bind_some, ly3 h, Option.bind_some, rc1, Option.bind_some, e2, Option.bind_some, ly0 h, Option.bind_some, ly3 h, Option.bind_some, rc1, Option.bind_some]
        show ((e41 F 1 (b + 1) (nI 0) (nI t) (mkH (hs l s d tl) I1 J2)).bind _) = _
        rw [e3, Option.bind_some, ly0 h, Option.bind_some, ly3 h, Option.bind_some, Option.bind_some, rc1, Option.bind_some, e4, Option.bind_some, rc1, Option.bind_some]
        show ((e45 F 1 (b + 1) (nI 0) (nI (2 ^ n - 1)) (mkH (hs l s d tl) I1 J3)).bind _) = _
        rw [e5, Option.bind_some, ly2 h, Option.bind_some, ly3 h, Option.bind_some, sr hS, Option.bind_some]
      by_cases hrt : r = nI t
      · have hl : ldn n A (v ++ [t]) t := by
          rcases hr with ⟨j, j1, j2, j3, j4⟩ | ⟨j1, _⟩
          · rw [hrt] at j2
            have hjt : t = j := (nI_eq (by omega) (by omega)).mp j2
            subst hjt
            exact ⟨(dnq t ht).mp j3, fun i hi hh => j4 i hi ((dnq i (by omega)).mpr hh)⟩
          · rw [hrt] at j1
            exact absurd j1.symm (gI_nI (by omega) (by omega) (by omega))
        have hl1 : cx_l n A (v ++ [t]) = cx_l n A v + 1 := vtl
        rcases pl_e (F := F) hS p1 g1 s3' (by omega) h.2.1 (by omega) (by omega) (by omega) vtL (by omega) w2 with ⟨hf, _⟩ | ⟨hf, I4, J4, e6, b1, b2, b3, b4, _, _⟩
        · omega
        · rw [hl1] at e6
          have r4 : I4 (b + 3) (cx_l n A v + 1) = nI (cnt n A (cx_l n A v + 1) W) := by rw [b3 _ (by omega) (by omega)]; exact p3 _ (by omega)
          refine ⟨(upI I4 (b + 3) (cx_l n A v + 1) (nI (cnt n A (cx_l n A v + 1) W + 1)), J4), ?_, W ++ [v ++ [t]], gqI_a hok p0 p5 ht hd hl hvl, ⟨?_, ?_, fun k hk => ?_, ?_⟩, ap_l p5, by rw [List.length_append]; simp; omega⟩
          · show m28_14 F (f + 1) b (nI i) (nI (cx_l n A v + 1)) (nI t) (mkH (hs l s d tl) I1 J1) = _
            rw [e0, if_neg (by rw [g_ne]; exact fun hh => hh hrt), e6, Option.bind_some, if_neg (show ¬ mc1 .eq (nI 1) = true by decide), ly5 h, Option.bind_some, rdI_H h.2.2.2.1 (by omega) (by omega), Option.bind_some, r4, n_1, nI_add, wrI_H h.2.2.2.1 (by omega) (by omega), Option.bind_some, e9]
          · exact sfb_I b1 (upI_ne (by omega)) (upI_ne (by omega)) (upI_ne (by omega))
          · exact sfc_I b2 (upI_ne (by omega)) (upI_ne (by omega))
          · show upI I4 (b + 3) (cx_l n A v + 1) (nI (cnt n A (cx_l n A v + 1) W + 1)) (b + 3) k = _
            rw [upI_at, cnt_ap, hl1]
            by_cases hkk : k = cx_l n A v + 1
            · rw [if_pos hkk, if_pos hkk.symm, hkk]
            · rw [if_neg hkk, if_neg (fun hh => hkk hh.symm), b3 _ (by omega) (by omega), Nat.add_zero]
              exact p3 k hk
          · refine ⟨fun c a1 a2 a3 => ?_, fun c a1 a2 => ?_⟩
            · show upI I4 (b + 3) _ _ c = _
              rw [upI_ne a1, b3 c a2 (by omega)]
              exact p4.1 c a1 a2 a3
            · show J4 c = _
              rw [b4 c (by omega), c3 c a1]
              exact p4.2 c a1 a2
      · have hl : ¬ ldn n A (v ++ [t]) t := fun hh => by
          rcases hr with ⟨j, j1, j2, j3, j4⟩ | ⟨_, j1⟩
          · have : j = t := by
              rcases Nat.lt_trichotomy j t with hlt | hlt | hlt
              · exact absurd ((dnq j j1).mp j3) (hh.2 j hlt)
              · exact hlt
              · exact absurd ((dnq t ht).mpr hh.1) (j4 t hlt)
            exact hrt (by rw [j2, this])
          · exact j1 t ht ((dnq t ht).mpr hh.1)
        refine ⟨(I1, J3), ?_, W, gqI_n p0 p5 (Or.inr hl), ⟨p1, s3', p3, p4.1, fun c a1 a2 => ?_⟩, p5, by omega⟩
        · show m28_14 F (f + 1) b (nI i) (nI (cx_l n A v + 1)) (nI t) (mkH (hs l s d tl) I1 J1) = _
          rw [e0, if_pos (by rw [g_ne]; exact hrt), e9]
        · show J3 c = _
          rw [c3 c a1]
          exact p4.2 c a1 a2
end S
