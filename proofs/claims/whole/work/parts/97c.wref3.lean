/-! The reference: all levels. -/
section S
variable {l s d : Value} {tl : List hQ} {F : Nat} {I : hI} {J : hJ} {n : Nat} {A : Nat → Nat → Int} {y : List Nat}
theorem nI_am1 (c : Nat) : nI (c + 1) + (-1) = nI c := by
  have := pk_sub1 c
  rw [← this, Int32.sub_eq_add_neg]
  rfl
theorem wl_all (hM : mo_n n A I) (hF : 9000 ≤ F) (yL : cx_L n y) (h12 : y.length ≤ 12) (hyl : y.length = cx_l n A y) : ∀ (f c : Nat) (x : List (List Nat) × hJ), c < f → (lvV n A y (cx_l n A y - c) x.1 (x.2 39) ∧ sqs n A x.1 x.2 37 ∧ 0 < x.1.length ∧ c ≤ cx_l n A y ∧ wfs J x.2) → ∃ J' : hJ, m180_62 F f 26 (nI x.1.length) (nI c) (mkH (hs l s d tl) I x.2) = some (wys n A y (cx_l n A y) [], (mkH (hs l s d tl) I J')) ∧ wfs J J' := by
  refine lpd (σ := List (List Nat) × hJ) (R := Option (Int64 × List mE)) (fun f c x => m180_62 F f 26 (nI x.1.length) (nI c) (mkH (hs l s d tl) I x.2)) (fun c x => lvV n A y (cx_l n A y - c) x.1 (x.2 39) ∧ sqs n A x.1 x.2 37 ∧ 0 < x.1.length ∧ c ≤ cx_l n A y ∧ wfs J x.2) (fun r => ∃ J' : hJ, r = some (wys n A y (cx_l n A y) [], (mkH (hs l s d tl) I J')) ∧ wfs J J') ?_ ?_
  · rintro f ⟨L1, J1⟩ ⟨p1, p2, p3, p4, p5⟩
    refine ⟨J1, ?_, p5⟩
    have p1 : lvV n A y (cx_l n A y) L1 (J1 39) := p1
    have e1 : rdJ (mkH (hs l s d tl) I J1) 39 0 = some (J1 39 0) := rdJ_H (i := 0) q39 (by omega) (by omega)
    show m180_62 F (f + 1) 26 (nI L1.length) (nI 0) (mkH (hs l s d tl) I J1) = _
    rw [m180_62, if_pos (show mc1 .le (nI 0) = true by decide), gr26_23, Option.bind_some, e1, Option.bind_some, lvV_e hM.1 yL p1 p3]
  · rintro f c ⟨L1, J1⟩ ⟨p1, p2, p3, p4, p5⟩
    right
    have p1 : lvV n A y (cx_l n A y - (c + 1)) L1 (J1 39) := p1
    have p2 : sqs n A L1 J1 37 := p2
    have p3 : 0 < L1.length := p3
    have p4 : c + 1 ≤ cx_l n A y := p4
    have p5 : wfs J J1 := p5
    have hk : cx_l n A y - (c + 1) < 12 := by omega
    have l1 : L1.length ≤ 924 := swk_le h12 (by omega) p1.1 (fun m u hu => (p1.2.1 m u hu).2.1)
    obtain ⟨L2, J2, e1, r1, r2, r3⟩ := wl_lv (l := l) (s := s) (d := d) (tl := tl) (rc62 := m180_62 F f) (v3 := nI (c + 1)) hM hF h12 hyl hk p1 p2 l1 F 0 ([], J1) (by omega) (by omega) ⟨lvI_0, fun i u h => by simp at h, fun _ _ _ _ => rfl⟩
    have l2 := lvI_le r1 h12 hk
    obtain ⟨K, e2, k1, k2, k3⟩ := wl_cp (l := l) (s := s) (d := d) (tl := tl) (I := I) (J := J2) (rc62 := m180_62 F f) (v3 := nI (c + 1)) hF l2 F 0 J2 (by omega) (by omega) ⟨fun _ _ _ => rfl, fun q hq => by omega, fun a ha => by omega⟩
    have v2 := lvI_z hM.1 p1 r1
    have n2 := lvI_ne hM.1 p1 r1 p3 (by omega)
    refine ⟨(L2, K), ?_, ?_, ?_, n2, by show c ≤ _; omega, ?_⟩
    · show m180_62 F (f + 1) 26 (nI L1.length) (nI (c + 1)) (mkH (hs l s d tl) I J1) = m180_62 F f 26 (nI L2.length) (nI c) (mkH (hs l s d tl) I K)
      rw [m180_62, if_neg (show ¬ mc1 .le (nI (c + 1)) = true by rw [d_le (by omega)]; omega)]
      refine Eq.trans (show _ = m180_72 F (m180_62 F f) F 26 (nI L1.length) (nI (c + 1)) (nI ([] : List (List Nat)).length) (nI 0) (mkH (hs l s d tl) I J1) from rfl) (e1.trans (e2.trans ?_))
      rw [nI_am1]
    · show lvV n A y (cx_l n A y - c) L2 (K 39)
      rw [show cx_l n A y - c = cx_l n A y - (c + 1) + 1 by omega]
      refine ⟨v2.1, fun m u hu => ?_, v2.2.2⟩
      obtain ⟨a1, a2, a3, a4⟩ := v2.2.1 m u hu
      exact ⟨a1, a2, a3, by rw [k3 m (List.getElem?_eq_some_iff.mp hu).1]; exact a4⟩
    · intro a x hx i' k' hi' hk'
      have hal : a < L2.length := (List.getElem?_eq_some_iff.mp hx).1
      show K 37 (25 * a + 5 * i' + k') = _
      rw [k2 _ (by omega)]
      exact r2 a x hx i' k' hi' hk'
    · intro a a1 a2 a3 a4 a5
      show K a = J a
      rw [k1 a a2 a4, r3 a a1 a3 a5]
      exact p5 a a1 a2 a3 a4 a5
end S
