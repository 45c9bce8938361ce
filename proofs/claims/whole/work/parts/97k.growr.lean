/-! The reference: a level more. -/
def gvI (n : Nat) (A : Nat → Nat → Int) (k : Nat) (L : List (List Nat)) (i t : Nat) (L' : List (List Nat)) : Prop := lds n A L' ∧ (∀ (m : Nat) (u : List Nat), L'[m]? = some u → cx_L n u ∧ cx_l n A u = k + 1) ∧ ∀ (i' j : Nat) (u : List Nat), L[i']? = some u → j < n → i' < i ∨ i' = i ∧ j < t → ¬ dn n A u j → ∃ (m : Nat) (v : List Nat), L'[m]? = some v ∧ cx_g n A v = cx_g n A (u ++ [j])
section S
variable {n k i t : Nat} {A : Nat → Nat → Int} {L L' : List (List Nat)}
theorem gvI_0 : gvI n A k L 0 0 [] := ⟨fun i j u v h => by simp at h, fun m u h => by simp at h, fun i' j u _ _ h => by omega⟩
theorem gvI_n {u : List Nat} (h : gvI n A k L i t L') (hu : L[i]? = some u) (hd : dn n A u t ∨ ∃ (m : Nat) (v : List Nat), L'[m]? = some v ∧ cx_g n A v = cx_g n A (u ++ [t])) : gvI n A k L i (t + 1) L' := by
  obtain ⟨h1, h2, h3⟩ := h
  refine ⟨h1, h2, fun i' j v a1 a2 a3 a4 => ?_⟩
  by_cases hj : i' = i ∧ j = t
  · obtain ⟨rfl, rfl⟩ := hj
    rw [hu] at a1
    cases a1
    rcases hd with hd | hd
    · exact absurd hd a4
    · exact hd
  · exact h3 i' j v a1 a2 (by omega) a4
theorem gvI_a (hok : cx_ok n A) {u : List Nat} (hV : lvp n A (fun m => m = k) L) (h : gvI n A k L i t L') (hu : L[i]? = some u) (ht : t < n) (hd : ¬ dn n A u t) (hnew : ∀ (m : Nat) (v : List Nat), L'[m]? = some v → cx_g n A v ≠ cx_g n A (u ++ [t])) : gvI n A k L i (t + 1) (L' ++ [u ++ [t]]) := by
  obtain ⟨h1, h2, h3⟩ := h
  obtain ⟨uL, ul⟩ := hV.2.1 i u hu
  have ul : cx_l n A u = k := ul
  have e := up_1 hok uL ht hd
  refine ⟨lds_app h1 (lds_1 _) (fun a b v w hv hw => ?_), fun m v hv => ?_, fun i' j v a1 a2 a3 a4 => ?_⟩
  · rw [List.mem_singleton.mp (List.mem_of_getElem? hw)]
    exact hnew a v hv
  · rcases ap_c hv with hv | ⟨_, rfl⟩
    · exact h2 m v hv
    · exact ⟨cx_L_app uL (cx_L_1 ht), by omega⟩
  · by_cases hj : i' = i ∧ j = t
    · obtain ⟨rfl, rfl⟩ := hj
      rw [hu] at a1
      cases a1
      exact ⟨L'.length, _, ap_r, rfl⟩
    · obtain ⟨m, w, b1, b2⟩ := h3 i' j v a1 a2 (by omega) a4
      exact ⟨m, w, ap_l b1, b2⟩
theorem gvI_i (h : gvI n A k L i n L') : gvI n A k L (i + 1) 0 L' := ⟨h.1, h.2.1, fun i' j v a1 a2 a3 a4 => h.2.2 i' j v a1 a2 (by omega) a4⟩
theorem gvI_le (h : gvI n A k L i t L') : glS n A k + L'.length ≤ glS n A (k + 1) := by
  rw [glS_s]
  obtain ⟨M, hM, e⟩ := glN_ex n A (k + 1)
  have := lvp_le (n := n) (A := A) (p := fun m => m = k + 1) h.1 h.2.1 hM
  omega
theorem gvI_z (hok : cx_ok n A) (hV : lvp n A (fun m => m = k) L) (h : gvI n A k L L.length 0 L') : lvp n A (fun m => m = k + 1) L' := by
  refine ⟨h.1, h.2.1, fun z hz hl => ?_⟩
  have hl : cx_l n A z = k + 1 := hl
  obtain ⟨j, hj, hd⟩ := cx_ex_dn hok hz (by omega)
  have zj := cx_L_app hz (cx_L_1 hj)
  have e := dn_1 hok hz hj hd
  obtain ⟨i, u, hu, hg⟩ := hV.2.2 (z ++ [j]) zj (by show cx_l n A (z ++ [j]) = k; omega)
  have nd : ¬ dn n A u j := fun hh => (dn_dn hok hz hj).mp ((dn_g hg j).mp hh) hd
  obtain ⟨m, v, b1, b2⟩ := h.2.2 i j u hu hj (Or.inl (List.getElem?_eq_some_iff.mp hu).1) nd
  refine ⟨m, v, b1, b2.trans ?_⟩
  rw [cx_g_ap1 [j] hg]
  exact cx_g_sr hok hj z
end S
def wfg (J J' : hJ) : Prop := ∀ c, c ≠ 32 → c ≠ 37 → c ≠ 38 → J' c = J c
def wfh (J J' : hJ) : Prop := ∀ c, c ≠ 32 → c ≠ 38 → J' c = J c
section S
variable {l s d : Value} {tl : List hQ} {F : Nat} {I : hI} {J : hJ} {n k i : Nat} {A : Nat → Nat → Int} {L : List (List Nat)}
theorem gl_in (hM : mo_n n A I) (hF : 9000 ≤ F) (hk : k < 31) (hV : lvp n A (fun m => m = k) L) (hq : sqs n A L J 37) (hal : I 26 27 = nI (glS n A k)) (hL : L.length ≤ 2000) {rc4 : Nat → Int32 → Int32 → Int32 → List mE → Option (Int32 × List mE)} {u : List Nat} (hu : L[i]? = some u) : ∀ (f t : Nat) (x : List (List Nat) × hJ), t ≤ n → n < t + f → (gvI n A k L i t x.1 ∧ sqs n A x.1 x.2 38 ∧ wfh J x.2 ∧ glS n A k + x.1.length ≤ 2000) → (∃ J' : hJ, m190_12 F rc4 f 26 (nI L.length) (nI x.1.length) (nI i) (nI t) (mkH (hs l s d tl) I x.2) = some (gI 1, (mkH (hs l s d tl) I J')) ∧ wfh J J' ∧ 2000 < glS n A (k + 1)) ∨ ∃ (L' : List (List Nat)) (J' : hJ), m190_12 F rc4 f 26 (nI L.length) (nI x.1.length) (nI i) (nI t) (mkH (hs l s d tl) I x.2) = rc4 26 (nI L.length) (nI L'.length) (nI (i + 1)) (mkH (hs l s d tl) I J') ∧ gvI n A k L (i + 1) 0 L' ∧ sqs n A L' J' 38 ∧ wfh J J' ∧ glS n A k + L'.length ≤ 2000 := by
  have hok := hM.1
  have hn5 := hM.2.2.1
  have hil := (List.getElem?_eq_some_iff.mp hu).1
  obtain ⟨uL, ul⟩ := hV.2.1 i u hu
  have ul : cx_l n A u = k := ul
  have s1 : 1 ≤ glS n A k := by
    have := glS_mo (n := n) (A := A) (Nat.zero_le k)
    rw [glS_0] at this
    exact this
  refine lpc (σ := List (List Nat) × hJ) (R := Option (Int32 × List mE)) (fun f t x => m190_12 F rc4 f 26 (nI L.length) (nI x.1.length) (nI i) (nI t) (mkH (hs l s d tl) I x.2)) n (fun t x => gvI n A k L i t x.1 ∧ sqs n A x.1 x.2 38 ∧ wfh J x.2 ∧ glS n A k + x.1.length ≤ 2000) (fun r => (∃ J' : hJ, r = some (gI 1, (mkH (hs l s d tl) I J')) ∧ wfh J J' ∧ 2000 < glS n A (k + 1)) ∨ ∃ (L' : List (List Nat)) (J' : hJ), r = rc4 26 (nI L.length) (nI L'.length) (nI (i + 1)) (mkH (hs l s d tl) I J') ∧ gvI n A k L (i + 1) 0 L' ∧ sqs n A L' J' 38 ∧ wfh J J' ∧ glS n A k + L'.length ≤ 2000) ?_ ?_
  · rintro f ⟨L1, J1⟩ ⟨p1, p2, p3, p4⟩
    right
    refine ⟨L1, J1, ?_, gvI_i p1, p2, p3, p4⟩
    show m190_12 F rc4 (f + 1) 26 (nI L.length) (nI L1.length) (nI i) (nI n) (mkH (hs l s d tl) I J1) = _
    rw [m190_12, gi26_0, Option.bind_some, hM.2.2.2.1, if_pos (show mc2 .ge (nI n) (nI n) = true by rw [c_ge (by omega) (by omega)]; omega), n_1, nI_add]
  · rintro f t ⟨L1, J1⟩ ht ⟨p1, p2, p3, p4⟩
    have p1 : gvI n A k L i t L1 := p1
    have p2 : sqs n A L1 J1 38 := p2
    have p3 : wfh J J1 := p3
    have p4 : glS n A k + L1.length ≤ 2000 := p4
    have j37 : J1 37 = J 37 := p3 37 (by decide) (by decide)
    have q1 : sq n A u (J1 37) (25 * i) := by rw [j37]; exact hq i u hu
    have e25 : (25 : Int32) * nI i = nI (25 * i) := by rw [n_25, pk_mul]
    have e9 : ∀ (v4 : Int32) hp, m190_94 F rc4 (m190_12 F rc4 f) 26 (nI L.length) v4 (nI i) (nI t) hp = m190_12 F rc4 f 26 (nI L.length) v4 (nI i) (nI (t + 1)) hp := by
      intro v4 hp
      unfold m190_94
      rw [n_1, nI_add]
    rcases idq_e (l := l) (s := s) (d := d) (tl := tl) (F := F) (I := I) (J := J1) hok hn5 (by omega) q37 (by omega) ht (by omega) uL (by omega) q1 with ⟨e1, hd⟩ | ⟨e1, hd⟩
    · right
      refine ⟨(L1, J1), ?_, gvI_n p1 hu (Or.inl hd), p2, p3, p4⟩
      show m190_12 F rc4 (f + 1) 26 (nI L.length) (nI L1.length) (nI i) (nI t) (mkH (hs l s d tl) I J1) = _
      rw [m190_12, gi26_0, Option.bind_some, hM.2.2.2.1, if_neg (show ¬ mc2 .ge (nI t) (nI n) = true by rw [c_ge (by omega) (by omega)]; omega), gr26_21, Option.bind_some, e25, e1, Option.bind_some, if_pos (show mc1 .ne (nI 1) = true by decide), e9]
    · have e2 := cp_e (l := l) (s := s) (d := d) (tl := tl) (F := F) (I := I) (J := J1) (o := 25 * i) (p := 0) (by omega) q37 q32 (by omega) (by omega) (by omega) (by omega) (by decide)
      have q2 : sq n A u (rwJ J1 32 0 25 (fun q => J1 37 (25 * i + q)) 32) 0 := sq_cp q1
      generalize hJ2 : rwJ J1 32 0 25 (fun q => J1 37 (25 * i + q)) = J2 at *
      have c2 : ∀ c, c ≠ 32 → J2 c = J1 c := fun c hc => by rw [← hJ2]; exact rwJ_ne hc
      obtain ⟨J3, e3, q3, c3⟩ := th_e (l := l) (s := s) (d := d) (tl := tl) (F := F) (J := J2) hM (by omega) ht uL q2
      have c3' : ∀ c, c ≠ 32 → J3 c = J1 c := fun c hc => (c3 c hc).trans (c2 c hc)
      have utL : cx_L n (u ++ [t]) := cx_L_app uL (cx_L_1 ht)
      have utl := up_1 hok uL ht hd
      have cmp : ∀ m v, L1[m]? = some v → ((∀ q, q < 25 → J3 32 (0 + q) = J3 38 (25 * m + q)) ↔ cx_g n A (u ++ [t]) = cx_g n A v) := by
        intro m v hv
        have hp := p1.2.1 m v hv
        exact sq_un hok hn5 utL hp.1 (by omega) (by omega) q3 (by rw [c3' 38 (by decide)]; exact p2 m v hv)
      have e0 : m190_12 F rc4 (f + 1) 26 (nI L.length) (nI L1.length) (nI i) (nI t) (mkH (hs l s d tl) I J1) = (e178 F 26 38 (nI L1.length) (mkH (hs l s d tl) I J3)).bind fun q12 => if mc2 .ne q12.1 (nI L1.length) = true then m190_78 F rc4 (m190_12 F rc4 f) 26 (nI L.length) (nI i) (nI t) (nI L1.length) 0 q12.2 else m190_78 F rc4 (m190_12 F rc4 f) 26 (nI L.length) (nI i) (nI t) (nI L1.length) 1 q12.2 := by
        rw [m190_12, gi26_0, Option.bind_some, hM.2.2.2.1, if_neg (show ¬ mc2 .ge (nI t) (nI n) = true by rw [c_ge (by omega) (by omega)]; omega), gr26_21, Option.bind_some, e25, e1, Option.bind_some, if_neg (show ¬ mc1 .ne (nI 0) = true by decide), gr26_21, Option.bind_some, gr26_13, Option.bind_some]
        show ((e177 F 37 (nI (25 * i)) 32 (nI 0) (mkH (hs l s d tl) I J1)).bind _) = _
        rw [e2, Option.bind_some, rc26, Option.bind_some, e3, Option.bind_some, gr26_22, Option.bind_some, rc26, Option.bind_some]
      have e78 : ∀ (J' : hJ) (z : Nat), z ≤ 1 → m190_78 F rc4 (m190_12 F rc4 f) 26 (nI L.length) (nI i) (nI t) (nI L1.length) (nI z) (mkH (hs l s d tl) I J') = if glS n A k + (L1.length + z) ≤ 2000 then m190_12 F rc4 f 26 (nI L.length) (nI (L1.length + z)) (nI i) (nI (t + 1)) (mkH (hs l s d tl) I J') else some (gI 1, (mkH (hs l s d tl) I J')) := by
        intro J' z hz
        unfold m190_78
        rw [gi26_27, Option.bind_some, hal, nI_add, nI_add]
        by_cases hle : glS n A k + (L1.length + z) ≤ 2000
        · rw [if_pos (show mc2 .le (nI (glS n A k + (L1.length + z))) 2000 = true by rw [n_2000, c_le (by omega) (by omega)]; exact hle), if_pos hle, e9]
        · rw [if_neg (show ¬ mc2 .le (nI (glS n A k + (L1.length + z))) 2000 = true by rw [n_2000, c_le (by omega) (by omega)]; exact hle), if_neg hle]
          rfl
      rcases ps_e (l := l) (s := s) (d := d) (tl := tl) (F := F) (I := I) (J := J3) (b := 38) (m := L1.length) (by omega) q38 (by omega) (by omega) (by decide) with ⟨m, hm, e4, hs4⟩ | ⟨e4, hs4⟩
      · right
        have hv := gd_ex hm
        generalize L1.getD m [] = v at hv
        have hg := (cmp m v hv).mp hs4
        refine ⟨(L1, J3), ?_, gvI_n p1 hu (Or.inr ⟨m, v, hv, hg.symm⟩), fun a x hx => ?_, fun c a1 a2 => ?_, p4⟩
        · show m190_12 F rc4 (f + 1) 26 (nI L.length) (nI L1.length) (nI i) (nI t) (mkH (hs l s d tl) I J1) = _
          have := e78 J3 0 (by omega)
          rw [e0, e4, Option.bind_some, if_pos (show mc2 .ne (nI m) (nI L1.length) = true by rw [c_ne (by omega) (by omega)]; omega)]
          refine Eq.trans this ?_
          rw [if_pos (by omega)]
          rfl
        · show sq n A x (J3 38) (25 * a)
          rw [c3' 38 (by decide)]
          exact p2 a x hx
        · show J3 c = J c
          rw [c3' c a1]
          exact p3 c a1 a2
      · have hnew : ∀ (m : Nat) (v : List Nat), L1[m]? = some v → cx_g n A v ≠ cx_g n A (u ++ [t]) := fun m v hv hg => hs4 m (List.getElem?_eq_some_iff.mp hv).1 ((cmp m v hv).mpr hg.symm)
        have q4 : sq n A (u ++ [t]) (rwJ J3 38 (25 * L1.length) 25 (fun q => J3 32 (0 + q)) 38) (25 * L1.length) := sq_cp q3
        have q5 : ∀ a x, L1[a]? = some x → sq n A x (rwJ J3 38 (25 * L1.length) 25 (fun q => J3 32 (0 + q)) 38) (25 * a) := by
          intro a x hx i' k' hi' hk'
          have hal := (List.getElem?_eq_some_iff.mp hx).1
          rw [rwJ_out (Or.inl (by omega)), c3' 38 (by decide)]
          exact p2 a x hx i' k' hi' hk'
        generalize hJ4 : rwJ J3 38 (25 * L1.length) 25 (fun q => J3 32 (0 + q)) = J4 at *
        have c4 : ∀ c, c ≠ 32 → c ≠ 38 → J4 c = J1 c := fun c hc hc' => by rw [← hJ4, rwJ_ne hc']; exact c3' c hc
        have gA' := gvI_a hok hV p1 hu ht hd hnew
        have len' : (L1 ++ [u ++ [t]]).length = L1.length + 1 := by rw [List.length_append]; rfl
        have ee : m190_12 F rc4 (f + 1) 26 (nI L.length) (nI L1.length) (nI i) (nI t) (mkH (hs l s d tl) I J1) = if glS n A k + (L1.length + 1) ≤ 2000 then m190_12 F rc4 f 26 (nI L.length) (nI (L1.length + 1)) (nI i) (nI (t + 1)) (mkH (hs l s d tl) I J4) else some (gI 1, (mkH (hs l s d tl) I J4)) := by
          rw [e0, e4, Option.bind_some, if_neg (show ¬ mc2 .ne (nI L1.length) (nI L1.length) = true by rw [c_ne (by omega) (by omega)]; omega)]
          exact e78 J4 1 (by omega)
        by_cases hle : glS n A k + (L1.length + 1) ≤ 2000
        · right
          refine ⟨(L1 ++ [u ++ [t]], J4), ?_, gA', fun a x hx => ?_, fun c a1 a2 => ?_, by show glS n A k + (L1 ++ [u ++ [t]]).length ≤ 2000; rw [len']; exact hle⟩
          · show m190_12 F rc4 (f + 1) 26 (nI L.length) (nI L1.length) (nI i) (nI t) (mkH (hs l s d tl) I J1) = m190_12 F rc4 f 26 (nI L.length) (nI (L1 ++ [u ++ [t]]).length) (nI i) (nI (t + 1)) (mkH (hs l s d tl) I J4)
            rw [ee, if_pos hle, len']
          · rcases ap_c hx with hx | ⟨rfl, rfl⟩
            · exact q5 a x hx
            · exact q4
          · show J4 c = J c
            rw [c4 c a1 a2]
            exact p3 c a1 a2
        · left
          left
          refine ⟨J4, ?_, fun c a1 a2 => ?_, ?_⟩
          · show m190_12 F rc4 (f + 1) 26 (nI L.length) (nI L1.length) (nI i) (nI t) (mkH (hs l s d tl) I J1) = _
            rw [ee, if_neg hle]
          · rw [c4 c a1 a2]
            exact p3 c a1 a2
          · have := gvI_le gA'
            rw [len'] at this
            omega
end S
