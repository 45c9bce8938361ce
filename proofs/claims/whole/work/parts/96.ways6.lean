/-! The class: countLeastWords. -/
section S
variable {l s d : Value} {tl : List hQ} {F : Nat} {I : hI} {J : hJ} {n b : Nat} {A : Nat → Nat → Int}
def cwP (n : Nat) (A : Nat → Nat → Int) (y : List Nat) (b : Nat) (I : hI) (J : hJ) (i t : Nat) (ws : List (List Nat)) (I' : hI) (J' : hJ) : Prop := qiv n A y ws (J' (b + 2)) i t ∧ shf n A ws (b + 4) 4096 I' J' ∧ lyf b I I' J J'
theorem cw_in (h : lyS (hs l s d tl) b) (hg : cl_n n A I) (hF : 9000 ≤ F) {y : List Nat} (h12 : y.length ≤ 12) {rc : Nat → Int32 → List mE → Option (Int64 × List mE)} {i : Nat} : ∀ (f t : Nat) (x : hI × hJ), t ≤ n → n < t + f → (∃ ws, cwP n A y b I J i t ws x.1 x.2 ∧ i < ws.length) → ∃ (I' : hI) (J' : hJ) (ws : List (List Nat)), m29_79 F rc f b (nI i) (nI t) (mkH (hs l s d tl) x.1 x.2) = rc b (nI (i + 1)) (mkH (hs l s d tl) I' J') ∧ cwP n A y b I J (i + 1) 0 ws I' J' ∧ i + 1 ≤ ws.length := by
  have hS := h.2.2.2.2
  have b54 := hS.2.2.2.2.2.1
  have hok := hg.1
  have hn5 := hg.2.2.1
  refine lpc (σ := hI × hJ) (R := Option (Int64 × List mE)) (fun f t x => m29_79 F rc f b (nI i) (nI t) (mkH (hs l s d tl) x.1 x.2)) n (fun t x => ∃ ws, cwP n A y b I J i t ws x.1 x.2 ∧ i < ws.length) (fun r => ∃ (I' : hI) (J' : hJ) (ws : List (List Nat)), r = rc b (nI (i + 1)) (mkH (hs l s d tl) I' J') ∧ cwP n A y b I J (i + 1) 0 ws I' J' ∧ i + 1 ≤ ws.length) ?_ ?_
  · rintro f ⟨I1, J1⟩ ⟨ws, ⟨p1, p2, p3⟩, p4⟩
    have g1 : cl_n n A I1 := cl_fr hg (p3.1 1 (by omega) (by omega) (by omega) (by omega)) (p3.1 3 (by omega) (by omega) (by omega) (by omega))
    refine ⟨I1, J1, ws, ?_, ⟨qiv_i p1, p2, p3⟩, p4⟩
    show m29_79 F rc (f + 1) b (nI i) (nI n) (mkH (hs l s d tl) I1 J1) = _
    unfold m29_79
    rw [ly0 h, Option.bind_some, gi1_0, Option.bind_some, g1.2.2.2.1, if_pos (show mc2 .ge (nI n) (nI n) = true by rw [c_ge (by omega) (by omega)]; omega), n_1, nI_add]
  · rintro f t ⟨I1, J1⟩ ht ⟨ws, ⟨p1, p2, p3⟩, p4⟩
    right
    have g1 : cl_n n A I1 := cl_fr hg (p3.1 1 (by omega) (by omega) (by omega) (by omega)) (p3.1 3 (by omega) (by omega) (by omega) (by omega))
    have hu := gd_ex p4
    generalize ws.getD i [] = u at hu
    have e0 : m29_79 F rc (f + 1) b (nI i) (nI t) (mkH (hs l s d tl) I1 J1) = (e61 F (b + 4) (nI i) (nI t) (mkH (hs l s d tl) I1 J1)).bind fun q5 => if mc1 .eq q5.1 = true then m29_108 F rc (m29_79 F rc f) b (nI i) (nI t) q5.2 else (rcv 2 q5.2 b).bind fun u9 => (e30 F b (nI i) (nI t) q5.2).bind fun q8 => m29_108 F rc (m29_79 F rc f) b (nI i) (nI t) q8.2 := by
      rw [m29_79, ly0 h, Option.bind_some, gi1_0, Option.bind_some, g1.2.2.2.1, if_neg (show ¬ mc2 .ge (nI t) (nI n) = true by rw [c_ge (by omega) (by omega)]; omega), ly2 h, Option.bind_some, sr hS, Option.bind_some]
    have e9 : ∀ hp, m29_108 F rc (m29_79 F rc f) b (nI i) (nI t) hp = m29_79 F rc f b (nI i) (nI (t + 1)) hp := by
      intro hp
      unfold m29_108
      rw [n_1, nI_add]
    rcases ib_e (F := F) hS hok hn5 p2.2.1 hu ht with ⟨e1, hd⟩ | ⟨e1, hd⟩
    · obtain ⟨I2, J2, e2, f2, ff⟩ := aw_e (F := F) h g1 p2 hF hu ht hd (fun hnew => qiv_r hok p1 h12 ht hu hd hnew)
      have e3 : m29_79 F rc (f + 1) b (nI i) (nI t) (mkH (hs l s d tl) I1 J1) = m29_79 F rc f b (nI i) (nI (t + 1)) (mkH (hs l s d tl) I2 J2) := by
        rw [e0, e1, Option.bind_some, if_neg (show ¬ mc1 .eq (nI 1) = true by decide), lyr h, Option.bind_some, e2, Option.bind_some, e9]
      refine ⟨(I2, J2), e3, ?_⟩
      rcases ff with ⟨m, v, m1, m2, m3, m4⟩ | ⟨m1, m3, m4⟩
      · exact ⟨ws, ⟨qiv_f hok p1 hu ht hd m1 m2 m4, m3, lyf_tr p3 f2⟩, p4⟩
      · exact ⟨ws ++ [u ++ [t]], ⟨qiv_a hok p1 hu ht hd m1 m4, m3, lyf_tr p3 f2⟩, by rw [List.length_append]; omega⟩
    · have e3 : m29_79 F rc (f + 1) b (nI i) (nI t) (mkH (hs l s d tl) I1 J1) = m29_79 F rc f b (nI i) (nI (t + 1)) (mkH (hs l s d tl) I1 J1) := by
        rw [e0, e1, Option.bind_some, if_pos (show mc1 .eq (nI 0) = true by decide), e9]
      exact ⟨(I1, J1), e3, ws, ⟨qiv_n p1 hu hd, p2, p3⟩, p4⟩
theorem cw_out (h : lyS (hs l s d tl) b) (hg : cl_n n A I) (hF : 9000 ≤ F) {y : List Nat} (h12 : y.length ≤ 12) : ∀ (f : Nat) (x : Nat × hI × hJ), (∃ ws, cwP n A y b I J x.1 0 ws x.2.1 x.2.2 ∧ x.1 ≤ ws.length) → 4096 - x.1 < f → ∃ (I' : hI) (J' : hJ), m29_59 F f b (nI x.1) (mkH (hs l s d tl) x.2.1 x.2.2) = some (wys n A y (cx_l n A y) [], (mkH (hs l s d tl) I' J')) ∧ lyf b I I' J J' ∧ sfb (b + 4) 4096 I' := by
  have hS := h.2.2.2.2
  have hn5 := hg.2.2.1
  refine lpm (σ := Nat × hI × hJ) (R := Option (Int64 × List mE)) (fun f x => m29_59 F f b (nI x.1) (mkH (hs l s d tl) x.2.1 x.2.2)) (fun x => 4096 - x.1) (fun x => ∃ ws, cwP n A y b I J x.1 0 ws x.2.1 x.2.2 ∧ x.1 ≤ ws.length) (fun r => ∃ (I' : hI) (J' : hJ), r = some (wys n A y (cx_l n A y) [], (mkH (hs l s d tl) I' J')) ∧ lyf b I I' J J' ∧ sfb (b + 4) 4096 I') ?_
  rintro f ⟨i, I1, J1⟩ ⟨ws, ⟨p1, p2, p3⟩, p4⟩
  have hlen := p2.2.1.1
  have h2 : I1 (b + 4) 2 = nI ws.length := p2.2.1.2.1
  have p4 : i ≤ ws.length := p4
  by_cases hi : i = ws.length
  · left
    subst hi
    obtain ⟨k1, k2⟩ := qfn_e hg.1 (qiv_z hg.1 p1)
    have k2 : J1 (b + 2) (ws.length - 1) = wys n A y (cx_l n A y) [] := k2
    refine ⟨I1, J1, ?_, p3, p2.1⟩
    show m29_59 F (f + 1) b (nI ws.length) (mkH (hs l s d tl) I1 J1) = _
    have e1 : nI ws.length - 1 = nI (ws.length - 1) := by
      obtain ⟨z, hz⟩ : ∃ z, ws.length = z + 1 := ⟨ws.length - 1, by omega⟩
      rw [hz]
      exact pk_sub1 z
    rw [m29_59, ly2 h, Option.bind_some, s2 hS, Option.bind_some, h2, if_pos (show mc2 .ge (nI ws.length) (nI ws.length) = true by rw [c_ge (by omega) (by omega)]; omega)]
    unfold m29_120
    rw [ly2 h, Option.bind_some, s2 hS, Option.bind_some, h2, if_pos (show mc1 .ne (nI ws.length) = true by rw [d_ne (by omega)]; omega), ly4 h, Option.bind_some, Option.bind_some, s2 hS, Option.bind_some, h2, e1, rdJ_H h.2.2.1 (by omega) (by omega), Option.bind_some, k2]
    rfl
  · right
    obtain ⟨I2, J2, ws', e1, q1, q2⟩ := cw_in (F := F) (rc := m29_59 F f) (i := i) h hg hF h12 F 0 (I1, J1) (by omega) (by omega) ⟨ws, ⟨p1, p2, p3⟩, by omega⟩
    refine ⟨(i + 1, I2, J2), ?_, ⟨ws', q1, q2⟩, by show 4096 - (i + 1) < 4096 - i; omega⟩
    show m29_59 F (f + 1) b (nI i) (mkH (hs l s d tl) I1 J1) = m29_59 F f b (nI (i + 1)) (mkH (hs l s d tl) I2 J2)
    rw [m29_59, ly2 h, Option.bind_some, s2 hS, Option.bind_some, h2, if_neg (show ¬ mc2 .ge (nI i) (nI ws.length) = true by rw [c_ge (by omega) (by omega)]; omega), if_neg (show ¬ mc2 .ge (nI i) 4096 = true by rw [n_4096, c_ge (by omega) (by omega)]; omega)]
    exact e1
/-- countLeastWords -/
theorem cw_e (h : lyS (hs l s d tl) b) (hg : cl_n n A I) {els : List (List Nat)} (hk : kp n A els I J) (hb : sfb (b + 4) 4096 I) (hF : 9000 ≤ F) {k : Nat} {y : List Nat} (hy : els[k]? = some y) (h12 : y.length ≤ 12) : ∃ I' J', e29 F b (nI k) (mkH (hs l s d tl) I J) = some (wys n A y (cx_l n A y) [], (mkH (hs l s d tl) I' J')) ∧ lyf b I I' J J' ∧ sfb (b + 4) 4096 I' := by
  have hS := h.2.2.2.2
  have b54 := hS.2.2.2.2.2.1
  have hok := hg.1
  have hn5 := hg.2.2.1
  have hk40 := hk.2.1
  have hkl := (List.getElem?_eq_some_iff.mp hy).1
  obtain ⟨y1, y2, y3, y4, y5, y6⟩ := hk.2.2.2.2 k y hy
  have yL := cx_c_L y1
  have yl : cx_l n A y = y.length := cx_c_l y1
  obtain ⟨e1, s1, f1⟩ := cle_e (F := F) (n := n) (A := A) (J := J) hS hb
  generalize hI1 : upI I (b + 4) 2 (nI 0) = I1 at *
  have i1 : ∀ c, c ≠ b + 4 → I1 c = I c := fun c hc => by rw [← hI1]; exact upI_ne hc
  have g1 : cl_n n A I1 := cl_fr hg (i1 1 (by omega)) (i1 3 (by omega))
  have w1 : wt n A y (rwJ J (b + 1) 0 n (fun j => J 12 (k * 5 + j)) (b + 1)) 0 := wt_cp y6
  have e2 : e42 F 1 12 (nI k * 5) (b + 1) 0 (mkH (hs l s d tl) I1 J) = some ((), (mkH (hs l s d tl) I1 (rwJ J (b + 1) 0 n (fun j => J 12 (k * 5 + j))))) := by
    rw [n_5, pk_mul]
    show e42 F 1 12 (nI (k * 5)) (b + 1) (nI 0) _ = _
    exact cr_e g1.2.2.2.1 hn5 (by omega) q12 h.2.1 (by omega) (by omega) (by omega) (by omega) (Or.inl (by omega))
  generalize hJ1 : rwJ J (b + 1) 0 n (fun j => J 12 (k * 5 + j)) = J1 at *
  have j1 : ∀ c, c ≠ b + 1 → J1 c = J c := fun c hc => by rw [← hJ1]; exact rwJ_ne hc
  have s2' : shf n A [] (b + 4) 4096 I1 J1 := shf_J s1 (j1 _ (by omega))
  rcases no_e (F := F) hS g1 s2' hF h.2.1 (by omega) (by omega) (by omega) yL (by omega) w1 with ⟨m, v, m1, _⟩ | ⟨_, ⟨m2, _⟩ | ⟨m2, I3, J3, e3, m4, m5⟩⟩
  · simp at m1
  · simp at m2
  · have l3 : lyf b I I3 J (upJ J3 (b + 2) 0 1) := ⟨fun c a1 a2 a3 a4 => by rw [m5.1 c a1 a2 a3 a4, i1 c a1], fun c a1 a2 a3 => by rw [upJ_ne a2, m5.2 c (by omega), j1 c a1]⟩
    have q0' : qiv n A y [y] (upJ J3 (b + 2) 0 1 (b + 2)) 0 0 := qiv_1 yL yl.symm (by rw [upJ_at, if_pos rfl])
    obtain ⟨I4, J4, e4, r1, r2⟩ := cw_out (F := F) (I := I) (J := J) h hg hF h12 F (0, I3, upJ J3 (b + 2) 0 1) ⟨[y], ⟨q0', shf_J m4 (upJ_ne (by omega)), l3⟩, by simp⟩ (by show 4096 - 0 < F; omega)
    refine ⟨I4, J4, ?_, r1, r2⟩
    have e5 : rdI (mkH (hs l s d tl) I1 J1) 10 (nI k) = some (nI (cx_l n A y)) := by
      rw [rdI_H q10 (by omega) (by omega), i1 10 (by omega), y3, yl]
    have e6 : wrJ (mkH (hs l s d tl) I3 J3) (b + 2) 0 1 = some (mkH (hs l s d tl) I3 (upJ J3 (b + 2) 0 1)) := wrJ_H (i := 0) h.2.2.1 (by omega) (by omega)
    show m29_0 F b (nI k) _ = _
    unfold m29_0
    rw [ly2 h, Option.bind_some, sr hS, Option.bind_some, e1, Option.bind_some, ly0 h, Option.bind_some, ly1 h, Option.bind_some, gr8_5, Option.bind_some, ly3 h, Option.bind_some, rc1, Option.bind_some, e2, Option.bind_some, ly2 h, Option.bind_some, ly3 h, Option.bind_some, ly1 h, Option.bind_some, gr8_3, Option.bind_some, e5, Option.bind_some, sr hS, Option.bind_some, e3, Option.bind_some, ly4 h, Option.bind_some]
    show (wrJ (mkH (hs l s d tl) I3 J3) (b + 2) 0 1).bind _ = _
    rw [e6, Option.bind_some]
    exact e4
end S
