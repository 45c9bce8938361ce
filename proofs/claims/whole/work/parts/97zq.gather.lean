/-! The class: Ideal, gather. -/
/-- the cells of Ideal -/
def idf (b : Nat) (I I' : hI) (J J' : hJ) : Prop := ∀ c, c < b ∨ b + 10 ≤ c → I' c = I c ∧ J' c = J c
theorem idf_rf (b : Nat) (I : hI) (J : hJ) : idf b I I J J := fun _ _ => ⟨rfl, rfl⟩
theorem idf_tr {b : Nat} {I I' I'' : hI} {J J' J'' : hJ} (h : idf b I I' J J') (h' : idf b I' I'' J' J'') : idf b I I'' J J'' := fun c hc => ⟨(h' c hc).1.trans (h c hc).1, (h' c hc).2.trans (h c hc).2⟩
/-- the table of neighbours, as far as it is known -/
def bmT (n : Nat) (A : Nat → Nat → Int) (W : List (List Nat)) (b : Nat) (I : hI) : Prop := ∀ (i t : Nat) (u : List Nat), W[i]? = some u → t < n → I (b + 2) (i * 5 + t) = -2 ∨ stpT n A W u t (I (b + 2) (i * 5 + t))
/-- the same, while the list still grows -/
def bmG (n : Nat) (A : Nat → Nat → Int) (W : List (List Nat)) (b : Nat) (I : hI) : Prop := ∀ (i t : Nat) (u : List Nat), W[i]? = some u → t < n → I (b + 2) (i * 5 + t) = -2 ∨ ∃ (j : Nat) (x : List Nat), W[j]? = some x ∧ cx_g n A x = cx_g n A (u ++ [t]) ∧ I (b + 2) (i * 5 + t) = nI j
/-- nothing is filled yet -/
def flG (W : List (List Nat)) (b : Nat) (I : hI) : Prop := ∀ i, i < W.length → I (b + 4) i = nI 0
section S
variable {l s d : Value} {tl : List hQ} {F : Nat} {I : hI} {J : hJ} {n b : Nat} {A : Nat → Nat → Int} {W : List (List Nat)} {y : List Nat}
theorem id0 (h : idS (hs l s d tl) b) : gfr 0 0 (mkH (hs l s d tl) I J) b = some 1 := gfr_H h.1 rfl q1
theorem id1 (h : idS (hs l s d tl) b) : gfr 0 1 (mkH (hs l s d tl) I J) b = some 8 := gfr_H h.1 rfl q8
theorem id2 (h : idS (hs l s d tl) b) : gfr 0 2 (mkH (hs l s d tl) I J) b = some (b + 5) := gfr_H h.1 rfl h.2.2.2.2.2.1
theorem id3 (h : idS (hs l s d tl) b) : gfr 0 3 (mkH (hs l s d tl) I J) b = some (b + 1) := gfr_H h.1 rfl h.2.1
theorem id4 (h : idS (hs l s d tl) b) : gfr 0 4 (mkH (hs l s d tl) I J) b = some (b + 2) := gfr_H h.1 rfl h.2.2.1
theorem id5 (h : idS (hs l s d tl) b) : gfr 0 5 (mkH (hs l s d tl) I J) b = some (b + 3) := gfr_H h.1 rfl h.2.2.2.1
theorem id6 (h : idS (hs l s d tl) b) : gfr 0 6 (mkH (hs l s d tl) I J) b = some (b + 4) := gfr_H h.1 rfl h.2.2.2.2.1
theorem idr (h : idS (hs l s d tl) b) : rcv 0 (mkH (hs l s d tl) I J) b = some () := rcv_H h.1
theorem ig7 (h : idS (hs l s d tl) b) : gfi 0 7 (mkH (hs l s d tl) I J) b = some (I b 7) := gfi_H h.1 rfl
theorem ig8 (h : idS (hs l s d tl) b) : gfi 0 8 (mkH (hs l s d tl) I J) b = some (I b 8) := gfi_H h.1 rfl
theorem ip7 (h : idS (hs l s d tl) b) {x : Int32} : pfv 0 7 (mkH (hs l s d tl) I J) b (.int x) = some (mkH (hs l s d tl) (upI I b 7 x) J) := pfi_H h.1 rfl
theorem ip8 (h : idS (hs l s d tl) b) {x : Int32} : pfv 0 8 (mkH (hs l s d tl) I J) b (.int x) = some (mkH (hs l s d tl) (upI I b 8 x) J) := pfi_H h.1 rfl
/-- welcome -/
theorem wel_e (h : idS (hs l s d tl) b) (hF : 9000 ≤ F) {x : Nat} (hx : x < 256) : ∃ K : hI, e8 F b (nI x) (mkH (hs l s d tl) I J) = some ((), (mkH (hs l s d tl) K J)) ∧ K (b + 4) x = nI 0 ∧ (∀ t, t < 5 → K (b + 2) (x * 5 + t) = -2) ∧ (∀ i, i ≠ x → K (b + 4) i = I (b + 4) i) ∧ (∀ q, q < x * 5 ∨ x * 5 + 5 ≤ q → K (b + 2) q = I (b + 2) q) ∧ ∀ c, c ≠ b + 2 → c ≠ b + 4 → K c = I c := by
  have e0 : e8 F b (nI x) (mkH (hs l s d tl) I J) = m8_9 F F b (nI x) (nI 0) (mkH (hs l s d tl) (upI I (b + 4) x 0) J) := by
    show m8_0 F b (nI x) _ = _
    unfold m8_0
    rw [id6 h, Option.bind_some, wrZ_H h.2.2.2.2.1 (by omega) hx (Or.inl rfl), Option.bind_some]
    rfl
  rw [e0]
  refine lpc (σ := hI) (R := Option (Unit × List mE)) (fun f t K => m8_9 F f b (nI x) (nI t) (mkH (hs l s d tl) K J)) 5 (fun t K => (∀ t', t' < t → K (b + 2) (x * 5 + t') = -2) ∧ (∀ q, q < x * 5 ∨ x * 5 + 5 ≤ q → K (b + 2) q = I (b + 2) q) ∧ ∀ c, c ≠ b + 2 → K c = upI I (b + 4) x 0 c) (fun r => ∃ K : hI, r = some ((), (mkH (hs l s d tl) K J)) ∧ K (b + 4) x = nI 0 ∧ (∀ t, t < 5 → K (b + 2) (x * 5 + t) = -2) ∧ (∀ i, i ≠ x → K (b + 4) i = I (b + 4) i) ∧ (∀ q, q < x * 5 ∨ x * 5 + 5 ≤ q → K (b + 2) q = I (b + 2) q) ∧ ∀ c, c ≠ b + 2 → c ≠ b + 4 → K c = I c) ?_ ?_ F 0 _ (by omega) (by omega) ⟨fun t' ht' => by omega, fun q _ => by rw [upI_ne (by omega)], fun _ _ => rfl⟩
  · rintro f K ⟨p1, p2, p3⟩
    refine ⟨K, ?_, ?_, p1, fun i hi => ?_, p2, fun c a1 a2 => by rw [p3 c a1, upI_ne a2]⟩
    · show m8_9 F (f + 1) b (nI x) (nI 5) (mkH (hs l s d tl) K J) = _
      rw [m8_9, if_pos (show mc2 .ge (nI 5) 5 = true by decide)]
    · rw [p3 (b + 4) (by omega), upI_at, if_pos rfl]
      rfl
    · rw [p3 (b + 4) (by omega), upI_at, if_neg hi]
  · rintro f t K ht ⟨p1, p2, p3⟩
    right
    refine ⟨upI K (b + 2) (x * 5 + t) (-2), ?_, fun t' ht' => ?_, fun q hq => ?_, fun c hc => by rw [upI_ne hc]; exact p3 c hc⟩
    · show m8_9 F (f + 1) b (nI x) (nI t) (mkH (hs l s d tl) K J) = _
      rw [m8_9, if_neg (show ¬ mc2 .ge (nI t) 5 = true by rw [n_5, c_ge (by omega) (by omega)]; omega), id4 h, Option.bind_some, n_5, pk_mul, nI_add, wrI_H h.2.2.1 (by omega) (by omega), Option.bind_some, n_1, nI_add]
    · rw [upI_at]
      by_cases htt : t' = t
      · rw [if_pos (by omega)]
      · rw [if_neg (by omega)]
        exact p1 t' (by omega)
    · rw [upI_at, if_neg (by omega)]
      exact p2 q hq
/-- join -/
theorem joi_e (h : idS (hs l s d tl) b) (hb54 : 54 ≤ b) (hg : cl_n n A I) (hF : 9000 ≤ F) (hsh : shf n A W (b + 5) 256 I J) (hbm : bmG n A W b I) (hfl : flG W b I) {x t : Nat} {u : List Nat} (hu : W[x]? = some u) (hul : cx_l n A u ≤ 9) (ht : t < n) (room : (∀ (m : Nat) (v : List Nat), W[m]? = some v → cx_g n A v ≠ cx_g n A (u ++ [t])) → W.length < 256) : ∃ (W' : List (List Nat)) (I' : hI) (J' : hJ), e7 F b (nI x) (nI t) (mkH (hs l s d tl) I J) = some ((), (mkH (hs l s d tl) I' J')) ∧ shf n A W' (b + 5) 256 I' J' ∧ bmG n A W' b I' ∧ flG W' b I' ∧ idf b I I' J J' ∧ I' b = I b ∧ ((W' = W ∧ ∃ (m : Nat) (v : List Nat), W[m]? = some v ∧ cx_g n A v = cx_g n A (u ++ [t])) ∨ (W' = W ++ [u ++ [t]] ∧ ∀ (m : Nat) (v : List Nat), W[m]? = some v → cx_g n A v ≠ cx_g n A (u ++ [t]))) := by
  have hS := h.2.2.2.2.2
  have hok := hg.1
  have hn5 := hg.2.2.1
  obtain ⟨hb, hc, hin⟩ := id hsh
  have hlen := hc.1
  have hxl := (List.getElem?_eq_some_iff.mp hu).1
  obtain ⟨uL, u31, uw, ul⟩ := hc.2.2 x u hu
  have utL : cx_L n (u ++ [t]) := cx_L_app uL (cx_L_1 ht)
  have utl : cx_l n A (u ++ [t]) ≤ 10 := by rcases cx_rstep hok uL ht with hh | hh <;> omega
  have w1 : wt n A u (rwJ J (b + 1) 0 n (fun j => J (b + 5 + 1) (x * 5 + j)) (b + 1)) 0 := wt_cp uw
  have w2 := wt_turn w1 ht
  have e1 : e42 F 1 (b + 5 + 1) (nI x * 5) (b + 1) 0 (mkH (hs l s d tl) I J) = some ((), (mkH (hs l s d tl) I (rwJ J (b + 1) 0 n (fun j => J (b + 5 + 1) (x * 5 + j))))) := by
    rw [n_5, pk_mul]
    show e42 F 1 (b + 5 + 1) (nI (x * 5)) (b + 1) (nI 0) _ = _
    exact cr_e hg.2.2.2.1 hn5 (by omega) hS.2.1 h.2.1 (by omega) (by omega) (by omega) (by omega) (Or.inl (by omega))
  generalize hJ1 : rwJ J (b + 1) 0 n (fun j => J (b + 5 + 1) (x * 5 + j)) = J1 at *
  have c1 : ∀ c, c ≠ b + 1 → J1 c = J c := fun c hc => by rw [← hJ1]; exact rwJ_ne hc
  have e2 := tw_e (l := l) (s := s) (d := d) (tl := tl) (F := F) (J := J1) (p := 0) hg (by omega) h.2.1 (by omega) (by omega) ht
  generalize hJ2 : rwJ J1 (b + 1) 0 n (fun j => J1 (b + 1) (0 + j) - J1 (b + 1) (0 + t) * zJ (A j t)) = J2 at *
  have c2 : ∀ c, c ≠ b + 1 → J2 c = J c := fun c hc => by rw [← hJ2, rwJ_ne hc]; exact c1 c hc
  have sh2 : shf n A W (b + 5) 256 I J2 := shf_J hsh (c2 _ (by omega))
  have z0 : (0 : Int32) = nI 0 := rfl
  have pre : e7 F b (nI x) (nI t) (mkH (hs l s d tl) I J) = ((e62 F (b + 5) (b + 1) (nI (cx_l n A (u ++ [t]))) (mkH (hs l s d tl) I J2)).bind fun q1 => if mc2 .ne q1.1 (-1) = true then (if mc2 .ne q1.1 (nI W.length) = true then m7_102 F b (nI x) (nI t) q1.1 q1.2 else (rcv 0 q1.2 b).bind fun u6 => (e8 F b q1.1 q1.2).bind fun q5 => m7_102 F b (nI x) (nI t) q1.1 q5.2) else some ((), q1.2)) := by
    show m7_0 F b _ _ _ = _
    unfold m7_0
    rw [id2 h, Option.bind_some, s2 hS, Option.bind_some, hc.2.1, id0 h, Option.bind_some, Option.bind_some, s3 hS, Option.bind_some, id3 h, Option.bind_some, rc1, Option.bind_some, e1, Option.bind_some, id0 h, Option.bind_some, id3 h, Option.bind_some, rc1, Option.bind_some, z0, e2, Option.bind_some, id2 h, Option.bind_some, id3 h, Option.bind_some, Option.bind_some, s4 hS, Option.bind_some, rdI_H hS.2.2.1 (by omega) (by omega), Option.bind_some, ul, Option.bind_some, sr hS, Option.bind_some]
    rcases ib_e (F := F) hS hok hn5 sh2.2.1 hu ht with ⟨e3, hd⟩ | ⟨e3, hd⟩
    · have l1 := dn_1 hok uL ht hd
      rw [e3, Option.bind_some, if_neg (show ¬ mc1 .eq (nI 1) = true by decide)]
      unfold m7_77
      rw [sr hS, Option.bind_some, ← l1, nI_am1]
    · have up := up_1 hok uL ht hd
      rw [e3, Option.bind_some, if_pos (show mc1 .eq (nI 0) = true by decide)]
      unfold m7_77
      rw [sr hS, Option.bind_some, n_1, nI_add, ← up]
  have e102 : ∀ (m : Nat) (K : hI) (M : hJ), m < 256 → m7_102 F b (nI x) (nI t) (nI m) (mkH (hs l s d tl) K M) = some ((), (mkH (hs l s d tl) (upI (upI K (b + 2) (x * 5 + t) (nI m)) (b + 2) (m * 5 + t) (nI x)) M)) := by
    intro m K M hm
    unfold m7_102
    rw [id4 h, Option.bind_some, n_5, pk_mul, nI_add, wrI_H h.2.2.1 (by omega) (by omega), Option.bind_some, id4 h, Option.bind_some, pk_mul, nI_add, wrI_H h.2.2.1 (by omega) (by omega), Option.bind_some]
  -- the table behind it
  have tab : ∀ (W' : List (List Nat)) (m : Nat) (v : List Nat) (K : hI), bmG n A W' b K → W'[x]? = some u → W'[m]? = some v → cx_g n A v = cx_g n A (u ++ [t]) → bmG n A W' b (upI (upI K (b + 2) (x * 5 + t) (nI m)) (b + 2) (m * 5 + t) (nI x)) := by
    intro W' m v K hK hxu hm hgv i j q hq hj
    rw [upI_at, upI_at]
    by_cases h1 : i * 5 + j = m * 5 + t
    · rw [if_pos h1]
      have hij : i = m ∧ j = t := by omega
      obtain ⟨rfl, rfl⟩ := hij
      rw [hm] at hq
      cases hq
      refine Or.inr ⟨x, u, hxu, ?_, rfl⟩
      rw [cx_g_ap1 [j] hgv]
      exact (cx_g_sr hok ht u).symm
    · rw [if_neg h1]
      by_cases h2 : i * 5 + j = x * 5 + t
      · rw [if_pos h2]
        have hij : i = x ∧ j = t := by omega
        obtain ⟨rfl, rfl⟩ := hij
        rw [hxu] at hq
        cases hq
        exact Or.inr ⟨m, v, hm, hgv, rfl⟩
      · rw [if_neg h2]
        exact hK i j q hq hj
  rcases no_e (F := F) hS hg sh2 hF h.2.1 (by omega) (by omega) (by omega) utL (by omega) w2 with ⟨m, v, m1, m2, m3⟩ | ⟨m1, ⟨m2, _⟩ | ⟨m2, I3, J3, m3, m4, m5⟩⟩
  · have hml := (List.getElem?_eq_some_iff.mp m1).1
    refine ⟨W, _, J2, ?_, ?_, tab W m v I hbm hu m1 m2, fun i hi => ?_, fun c hc => ⟨?_, c2 c (by omega)⟩, ?_, Or.inl ⟨rfl, m, v, m1, m2⟩⟩
    · rw [pre, m3, Option.bind_some, if_pos (show mc2 .ne (nI m) (-1) = true by rw [g_ne]; exact Ne.symm (gI_nI (k := 1) (by omega) (by omega) (by omega))), if_pos (show mc2 .ne (nI m) (nI W.length) = true by rw [c_ne (by omega) (by omega)]; omega), e102 m I J2 (by omega)]
    · obtain ⟨a1, a2, a3⟩ := sh2
      refine ⟨sfb_I a1 (by rw [upI_ne (by omega), upI_ne (by omega)]) (by rw [upI_ne (by omega), upI_ne (by omega)]) (by rw [upI_ne (by omega), upI_ne (by omega)]), sfc_I a2 (by rw [upI_ne (by omega), upI_ne (by omega)]) (by rw [upI_ne (by omega), upI_ne (by omega)]), ?_⟩
      unfold sfh at *
      rw [upI_ne (by omega), upI_ne (by omega), upI_ne (by omega), upI_ne (by omega)]
      exact a3
    · rw [upI_ne (by omega), upI_ne (by omega)]
      exact hfl i hi
    · rw [upI_ne (by omega), upI_ne (by omega)]
    · rw [upI_ne (by omega), upI_ne (by omega)]
  · exact absurd (room m1) (by omega)
  · obtain ⟨K, k0, k1, k2, k3, k4, k5⟩ := wel_e (l := l) (s := s) (d := d) (tl := tl) (I := I3) (J := J3) h hF (x := W.length) m2
    have lenx : (W ++ [u ++ [t]])[x]? = some u := ap_l hu
    have bmK : bmG n A (W ++ [u ++ [t]]) b K := by
      intro i j q hq hj
      rcases ap_c hq with hq1 | ⟨rfl, rfl⟩
      · have hil := (List.getElem?_eq_some_iff.mp hq1).1
        rw [k4 _ (by omega), m5.1 (b + 2) (by omega) (by omega) (by omega) (by omega)]
        rcases hbm i j q hq1 hj with hh | ⟨j', x', a1, a2, a3⟩
        · exact Or.inl hh
        · exact Or.inr ⟨j', x', ap_l a1, a2, a3⟩
      · exact Or.inl (k2 j (by omega))
    refine ⟨W ++ [u ++ [t]], upI (upI K (b + 2) (x * 5 + t) (nI W.length)) (b + 2) (W.length * 5 + t) (nI x), J3, ?_, ?_, tab _ W.length (u ++ [t]) K bmK lenx ap_r rfl, fun i hi => ?_, fun c hc => ⟨?_, ?_⟩, ?_, Or.inr ⟨rfl, m1⟩⟩
    · rw [pre, m3, Option.bind_some, if_pos (show mc2 .ne (nI W.length) (-1) = true by rw [g_ne]; exact Ne.symm (gI_nI (k := 1) (by omega) (by omega) (by omega))), if_neg (show ¬ mc2 .ne (nI W.length) (nI W.length) = true by rw [c_ne (by omega) (by omega)]; omega), idr h, Option.bind_some, k0, Option.bind_some, e102 W.length K J3 m2]
    · obtain ⟨a1, a2, a3⟩ := m4
      have o : ∀ c, c ≠ b + 2 → c ≠ b + 4 → upI (upI K (b + 2) (x * 5 + t) (nI W.length)) (b + 2) (W.length * 5 + t) (nI x) c = I3 c := fun c a b => by rw [upI_ne a, upI_ne a, k5 c a b]
      refine ⟨sfb_I a1 (o _ (by omega) (by omega)) (o _ (by omega) (by omega)) (o _ (by omega) (by omega)), sfc_I a2 (o _ (by omega) (by omega)) (o _ (by omega) (by omega)), ?_⟩
      unfold sfh at *
      rw [o (b + 5 + 4) (by omega) (by omega), o (b + 5 + 3) (by omega) (by omega)]
      exact a3
    · rw [upI_ne (by omega), upI_ne (by omega)]
      rw [List.length_append] at hi
      simp at hi
      by_cases hiw : i = W.length
      · rw [hiw, k1]
      · rw [k3 i hiw, m5.1 (b + 4) (by omega) (by omega) (by omega) (by omega)]
        exact hfl i (by omega)
    · rw [upI_ne (by omega), upI_ne (by omega), k5 c (by omega) (by omega)]
      exact m5.1 c (by omega) (by omega) (by omega) (by omega)
    · rw [m5.2 c (by omega)]
      exact c2 c (by omega)
    · rw [upI_ne (by omega), upI_ne (by omega), k5 b (by omega) (by omega)]
      exact m5.1 b (by omega) (by omega) (by omega) (by omega)
end S
