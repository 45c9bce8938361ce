/-! The reference: words of a kept element. -/
section S
variable {l s d : Value} {tl : List hQ} {F : Nat} {I : hI} {J : hJ} {n : Nat} {A : Nat → Nat → Int} {els : List (List Nat)}
theorem wr_e (hM : mo_n n A I) (hk : km n A els I) (hF : 9000 ≤ F) {j : Nat} {y : List Nat} (hy : els[j]? = some y) (h12 : y.length ≤ 12) : ∃ J', e180 F 26 (nI j) (mkH (hs l s d tl) I J) = some (wys n A y (cx_l n A y) [], (mkH (hs l s d tl) I J')) ∧ wfs J J' := by
  obtain ⟨y1, y2, y3, y4⟩ := hk.2.2.2.2 j y hy
  have hjl := (List.getElem?_eq_some_iff.mp hy).1
  have h40 := hk.2.1
  have yL := cx_c_L y1
  have yl := cx_c_l y1
  obtain ⟨J1, e1, q1, c1⟩ := sqr_e (l := l) (s := s) (d := d) (tl := tl) (F := F) (J := J) hM hk (by omega) hy
  have e2 := cp_e (l := l) (s := s) (d := d) (tl := tl) (F := F) (I := I) (J := J1) (o := 0) (p := 0) (by omega) q32 q37 (by omega) (by omega) (by omega) (by omega) (by decide)
  have q2 : sq n A y (rwJ J1 37 0 25 (fun q => J1 32 (0 + q)) 37) 0 := sq_cp q1
  generalize hJ2 : rwJ J1 37 0 25 (fun q => J1 32 (0 + q)) = J2 at *
  have c2 : ∀ c, c ≠ 37 → J2 c = J1 c := fun c hc => by rw [← hJ2]; exact rwJ_ne hc
  have e3 : wrJ (mkH (hs l s d tl) I J2) 39 0 1 = some (mkH (hs l s d tl) I (upJ J2 39 0 1)) := wrJ_H (i := 0) q39 (by omega) (by omega)
  have fr : wfs J (upJ J2 39 0 1) := fun c a1 a2 a3 a4 a5 => by rw [upJ_ne a4, c2 c a2, c1 c a1]
  obtain ⟨J', e4, f4⟩ := wl_all (l := l) (s := s) (d := d) (tl := tl) (J := J) hM hF yL h12 yl.symm F (cx_l n A y) ([y], upJ J2 39 0 1) (by omega) ⟨by
    rw [Nat.sub_self]
    exact lvV_0 yL yl.symm (by show upJ J2 39 0 1 39 0 = 1; rw [upJ_at, if_pos rfl]), fun a x hx => by
    cases a with
    | zero =>
      cases hx
      show sq n A y (upJ J2 39 0 1 37) 0
      rw [upJ_ne (by decide)]
      exact q2
    | succ a => simp at hx, by show 0 < 1; omega, Nat.le_refl _, fr⟩
  refine ⟨J', ?_, f4⟩
  have r1 : ∀ J : hJ, rdI (mkH (hs l s d tl) I J) 34 (nI j) = some (nI y.length) := fun J => by rw [rdI_H q34 (by omega) (by omega), y3]
  show m180_0 F 26 (nI j) _ = _
  unfold m180_0
  rw [rc26, Option.bind_some, ie1 hk hy, Option.bind_some, if_pos (show mc1 .ne (nI 1) = true by decide), gr26_17, Option.bind_some, r1, Option.bind_some, if_pos (show mc2 .le (nI y.length) 12 = true by rw [n_12, c_le (by omega) (by omega)]; exact h12), rc26, Option.bind_some]
  show ((e169 F 26 (nI j) (nI 0) (mkH (hs l s d tl) I J)).bind _) = _
  rw [e1, Option.bind_some, gr26_13, Option.bind_some, gr26_21, Option.bind_some]
  show ((e177 F 32 (nI 0) 37 (nI 0) (mkH (hs l s d tl) I J1)).bind _) = _
  rw [e2, Option.bind_some, gr26_23, Option.bind_some]
  show ((wrJ (mkH (hs l s d tl) I J2) 39 0 1).bind _) = _
  rw [e3, Option.bind_some, gr26_17, Option.bind_some, r1, Option.bind_some, ← yl]
  exact e4
end S
