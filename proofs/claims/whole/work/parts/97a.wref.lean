/-! The reference: one element of a level, letter by letter. -/
def sqs (n : Nat) (A : Nat → Nat → Int) (L : List (List Nat)) (J : hJ) (a : Nat) : Prop := ∀ (i : Nat) (u : List Nat), L[i]? = some u → sq n A u (J a) (25 * i)
def wfr (J J' : hJ) : Prop := ∀ c, c ≠ 32 → c ≠ 38 → c ≠ 40 → J' c = J c
section S
variable {l s d : Value} {tl : List hQ} {F : Nat} {I : hI} {J : hJ} {n k i : Nat} {A : Nat → Nat → Int} {y : List Nat} {L : List (List Nat)}
theorem lvI_le {c c' : Nat → Int64} {t : Nat} {L' : List (List Nat)} (h : lvI n A y k L c i t L' c') (h12 : y.length ≤ 12) (hk : k < 12) : L'.length ≤ 924 := swk_le h12 (by omega) h.1 (fun m u hu => (h.2.1 m u hu).2.1)
theorem wl_in (hM : mo_n n A I) (hF : 9000 ≤ F) (h12 : y.length ≤ 12) (hyl : y.length = cx_l n A y) (hk : k < 12) (hV : lvV n A y k L (J 39)) (hq : sqs n A L J 37) {rc62 : Nat → Int32 → Int32 → List mE → Option (Int64 × List mE)} {rc72 : Nat → Int32 → Int32 → Int32 → Int32 → List mE → Option (Int64 × List mE)} {u : List Nat} (hu : L[i]? = some u) (hL : L.length ≤ 924) {v3 : Int32} : ∀ (f t : Nat) (x : List (List Nat) × hJ), t ≤ n → n < t + f → (lvI n A y k L (J 39) i t x.1 (x.2 40) ∧ sqs n A x.1 x.2 38 ∧ wfr J x.2) → ∃ (L' : List (List Nat)) (J' : hJ), m180_81 F rc62 rc72 f 26 (nI L.length) v3 (nI x.1.length) (nI i) (nI t) (mkH (hs l s d tl) I x.2) = rc72 26 (nI L.length) v3 (nI L'.length) (nI (i + 1)) (mkH (hs l s d tl) I J') ∧ lvI n A y k L (J 39) (i + 1) 0 L' (J' 40) ∧ sqs n A L' J' 38 ∧ wfr J J' := by
  have hok := hM.1
  have hn5 := hM.2.2.1
  have hil := (List.getElem?_eq_some_iff.mp hu).1
  obtain ⟨uL, us, ul, _⟩ := hV.2.1 i u hu
  refine lpc (σ := List (List Nat) × hJ) (R := Option (Int64 × List mE)) (fun f t x => m180_81 F rc62 rc72 f 26 (nI L.length) v3 (nI x.1.length) (nI i) (nI t) (mkH (hs l s d tl) I x.2)) n (fun t x => lvI n A y k L (J 39) i t x.1 (x.2 40) ∧ sqs n A x.1 x.2 38 ∧ wfr J x.2) (fun r => ∃ (L' : List (List Nat)) (J' : hJ), r = rc72 26 (nI L.length) v3 (nI L'.length) (nI (i + 1)) (mkH (hs l s d tl) I J') ∧ lvI n A y k L (J 39) (i + 1) 0 L' (J' 40) ∧ sqs n A L' J' 38 ∧ wfr J J') ?_ ?_
  · rintro f ⟨L1, J1⟩ ⟨p1, p2, p3⟩
    refine ⟨L1, J1, ?_, lvI_i p1, p2, p3⟩
    show m180_81 F rc62 rc72 (f + 1) 26 (nI L.length) v3 (nI L1.length) (nI i) (nI n) (mkH (hs l s d tl) I J1) = _
    rw [m180_81, gi26_0, Option.bind_some, hM.2.2.2.1, if_pos (show mc2 .ge (nI n) (nI n) = true by rw [c_ge (by omega) (by omega)]; omega), n_1, nI_add]
  · rintro f t ⟨L1, J1⟩ ht ⟨p1, p2, p3⟩
    right
    have p1 : lvI n A y k L (J 39) i t L1 (J1 40) := p1
    have p2 : sqs n A L1 J1 38 := p2
    have p3 : wfr J J1 := p3
    have l1 := lvI_le p1 h12 hk
    have j37 : J1 37 = J 37 := p3 37 (by decide) (by decide) (by decide)
    have j39 : J1 39 = J 39 := p3 39 (by decide) (by decide) (by decide)
    have q1 : sq n A u (J1 37) (25 * i) := by rw [j37]; exact hq i u hu
    have e25 : (25 : Int32) * nI i = nI (25 * i) := by rw [n_25, pk_mul]
    have e9 : ∀ (v4 : Int32) hp, m180_198 F rc62 rc72 (m180_81 F rc62 rc72 f) 26 (nI L.length) v3 v4 (nI i) (nI t) hp = m180_81 F rc62 rc72 f 26 (nI L.length) v3 v4 (nI i) (nI (t + 1)) hp := by
      intro v4 hp
      unfold m180_198
      rw [n_1, nI_add]
    rcases idq_e (l := l) (s := s) (d := d) (tl := tl) (F := F) (I := I) (J := J1) hok hn5 (by omega) q37 (by omega) ht (by omega) uL (by omega) q1 with ⟨e1, hd⟩ | ⟨e1, hd⟩
    · have e2 := cp_e (l := l) (s := s) (d := d) (tl := tl) (F := F) (I := I) (J := J1) (o := 25 * i) (p := 0) (by omega) q37 q32 (by omega) (by omega) (by omega) (by omega) (by decide)
      have q2 : sq n A u (rwJ J1 32 0 25 (fun q => J1 37 (25 * i + q)) 32) 0 := sq_cp q1
      generalize hJ2 : rwJ J1 32 0 25 (fun q => J1 37 (25 * i + q)) = J2 at *
      have c2 : ∀ c, c ≠ 32 → J2 c = J1 c := fun c hc => by rw [← hJ2]; exact rwJ_ne hc
      obtain ⟨J3, e3, q3, c3⟩ := th_e (l := l) (s := s) (d := d) (tl := tl) (F := F) (J := J2) hM (by omega) ht uL q2
      have c3' : ∀ c, c ≠ 32 → J3 c = J1 c := fun c hc => (c3 c hc).trans (c2 c hc)
      have utL : cx_L n (u ++ [t]) := cx_L_app uL (cx_L_1 ht)
      have utl := dn_1 hok uL ht hd
      have cmp : ∀ m v, L1[m]? = some v → ((∀ q, q < 25 → J3 32 (0 + q) = J3 38 (25 * m + q)) ↔ cx_g n A (u ++ [t]) = cx_g n A v) := by
        intro m v hv
        have hp := p1.2.1 m v hv
        exact sq_un hok hn5 utL hp.1 (by omega) (by omega) q3 (by rw [c3' 38 (by decide)]; exact p2 m v hv)
      have e0 : m180_81 F rc62 rc72 (f + 1) 26 (nI L.length) v3 (nI L1.length) (nI i) (nI t) (mkH (hs l s d tl) I J1) = (e178 F 26 38 (nI L1.length) (mkH (hs l s d tl) I J3)).bind fun q12 => (gfr 11 24 q12.2 26).bind fun x14 => if mc2 .ne q12.1 (nI L1.length) = true then (gfr 11 24 q12.2 26).bind fun x16 => (rdJ q12.2 x16 q12.1).bind fun x17 => (gfr 11 23 q12.2 26).bind fun x18 => (rdJ q12.2 x18 (nI i)).bind fun x19 => m180_180 F rc62 rc72 (m180_81 F rc62 rc72 f) 26 (nI L.length) v3 (nI L1.length) (nI i) (nI t) q12.1 x14 q12.1 (x17 + x19) q12.2 else (gfr 11 23 q12.2 26).bind fun x20 => (rdJ q12.2 x20 (nI i)).bind fun x21 => m180_180 F rc62 rc72 (m180_81 F rc62 rc72 f) 26 (nI L.length) v3 (nI L1.length) (nI i) (nI t) q12.1 x14 q12.1 x21 q12.2 := by
        rw [m180_81, gi26_0, Option.bind_some, hM.2.2.2.1, if_neg (show ¬ mc2 .ge (nI t) (nI n) = true by rw [c_ge (by omega) (by omega)]; omega), gr26_21, Option.bind_some, e25, e1, Option.bind_some, if_neg (show ¬ mc1 .eq (nI 1) = true by decide), gr26_21, Option.bind_some, gr26_13, Option.bind_some]
        show ((e177 F 37 (nI (25 * i)) 32 (nI 0) (mkH (hs l s d tl) I J1)).bind _) = _
        rw [e2, Option.bind_some, rc26, Option.bind_some, e3, Option.bind_some, gr26_22, Option.bind_some, rc26, Option.bind_some]
      rcases ps_e (l := l) (s := s) (d := d) (tl := tl) (F := F) (I := I) (J := J3) (b := 38) (m := L1.length) (by omega) q38 (by omega) (by omega) (by decide) with ⟨m, hm, e4, hs4⟩ | ⟨e4, hs4⟩
      · have hv := gd_ex hm
        generalize L1.getD m [] = v at hv
        have hg := (cmp m v hv).mp hs4
        refine ⟨(L1, upJ J3 40 m (J3 40 m + J3 39 i)), ?_, ?_, ?_, ?_⟩
        · show m180_81 F rc62 rc72 (f + 1) 26 (nI L.length) v3 (nI L1.length) (nI i) (nI t) (mkH (hs l s d tl) I J1) = _
          rw [e0, e4, Option.bind_some, gr26_24, Option.bind_some, if_pos (show mc2 .ne (nI m) (nI L1.length) = true by rw [c_ne (by omega) (by omega)]; omega), Option.bind_some, rdJ_H q40 (by omega) (by omega), Option.bind_some, gr26_23, Option.bind_some, rdJ_H q39 (by omega) (by omega), Option.bind_some]
          unfold m180_180
          rw [wrJ_H q40 (by omega) (by omega), Option.bind_some, if_pos (show mc2 .ne (nI m) (nI L1.length) = true by rw [c_ne (by omega) (by omega)]; omega)]
          unfold m180_195
          rw [e9, Int32.add_zero]
        · refine lvI_f p1 hu hd hv hg.symm (fun a _ => ?_)
          show upJ J3 40 m (J3 40 m + J3 39 i) 40 a = _
          rw [upJ_at, c3' 40 (by decide), c3' 39 (by decide), j39]
        · intro a x hx
          show sq n A x (upJ J3 40 m (J3 40 m + J3 39 i) 38) (25 * a)
          rw [upJ_ne (by decide), c3' 38 (by decide)]
          exact p2 a x hx
        · intro c a1 a2 a3
          show upJ J3 40 m (J3 40 m + J3 39 i) c = J c
          rw [upJ_ne a3, c3' c a1]
          exact p3 c a1 a2 a3
      · have hnew : ∀ (m : Nat) (v : List Nat), L1[m]? = some v → cx_g n A v ≠ cx_g n A (u ++ [t]) := fun m v hv hg => hs4 m (List.getElem?_eq_some_iff.mp hv).1 ((cmp m v hv).mpr hg.symm)
        have q4 : sq n A (u ++ [t]) (rwJ J3 38 (25 * L1.length) 25 (fun q => J3 32 (0 + q)) 38) (25 * L1.length) := sq_cp q3
        have q5 : ∀ a x, L1[a]? = some x → sq n A x (rwJ J3 38 (25 * L1.length) 25 (fun q => J3 32 (0 + q)) 38) (25 * a) := by
          intro a x hx i' k' hi' hk'
          have hal := (List.getElem?_eq_some_iff.mp hx).1
          rw [rwJ_out (Or.inl (by omega)), c3' 38 (by decide)]
          exact p2 a x hx i' k' hi' hk'
        generalize hJ4 : rwJ J3 38 (25 * L1.length) 25 (fun q => J3 32 (0 + q)) = J4 at *
        have c4 : ∀ c, c ≠ 32 → c ≠ 38 → J4 c = J1 c := fun c hc hc' => by rw [← hJ4, rwJ_ne hc']; exact c3' c hc
        refine ⟨(L1 ++ [u ++ [t]], upJ J4 40 L1.length (J4 39 i)), ?_, ?_, ?_, ?_⟩
        · show m180_81 F rc62 rc72 (f + 1) 26 (nI L.length) v3 (nI L1.length) (nI i) (nI t) (mkH (hs l s d tl) I J1) = m180_81 F rc62 rc72 f 26 (nI L.length) v3 (nI (L1 ++ [u ++ [t]]).length) (nI i) (nI (t + 1)) (mkH (hs l s d tl) I (upJ J4 40 L1.length (J4 39 i)))
          rw [e0, e4, Option.bind_some, gr26_24, Option.bind_some, if_neg (show ¬ mc2 .ne (nI L1.length) (nI L1.length) = true by rw [c_ne (by omega) (by omega)]; omega), gr26_23, Option.bind_some, rdJ_H q39 (by omega) (by omega), Option.bind_some]
          unfold m180_180
          rw [wrJ_H q40 (by omega) (by omega), Option.bind_some, if_neg (show ¬ mc2 .ne (nI L1.length) (nI L1.length) = true by rw [c_ne (by omega) (by omega)]; omega)]
          unfold m180_195
          rw [e9, n_1, nI_add, List.length_append]
          rfl
        · refine lvI_a hok hV p1 hu ht hd hnew (fun a _ => ?_)
          show upJ J4 40 L1.length (J4 39 i) 40 a = _
          rw [upJ_at, c4 40 (by decide) (by decide), c4 39 (by decide) (by decide), j39]
        · intro a x hx
          show sq n A x (upJ J4 40 L1.length (J4 39 i) 38) (25 * a)
          rw [upJ_ne (by decide)]
          rcases ap_c hx with hx | ⟨rfl, rfl⟩
          · exact q5 a x hx
          · exact q4
        · intro c a1 a2 a3
          show upJ J4 40 L1.length (J4 39 i) c = J c
          rw [upJ_ne a3, c4 c a1 a2]
          exact p3 c a1 a2 a3
    · refine ⟨(L1, J1), ?_, lvI_n p1 hu hd, p2, p3⟩
      show m180_81 F rc62 rc72 (f + 1) 26 (nI L.length) v3 (nI L1.length) (nI i) (nI t) (mkH (hs l s d tl) I J1) = _
      rw [m180_81, gi26_0, Option.bind_some, hM.2.2.2.1, if_neg (show ¬ mc2 .ge (nI t) (nI n) = true by rw [c_ge (by omega) (by omega)]; omega), gr26_21, Option.bind_some, e25, e1, Option.bind_some, if_pos (show mc1 .eq (nI 0) = true by decide), e9]
end S
