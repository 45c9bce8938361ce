/-! The class: one step down adds its ways. -/
section S
variable {l s d : Value} {tl : List hQ} {F : Nat} {I : hI} {J : hJ} {n b : Nat} {A : Nat → Nat → Int} {ws : List (List Nat)}
theorem shf_J {q M : Nat} {J' : hJ} (h : shf n A ws q M I J) (e : J' (q + 1) = J (q + 1)) : shf n A ws q M I J' := by
  unfold shf sfc sfh at *
  rw [e]
  exact h
theorem ly0 (h : lyS (hs l s d tl) b) : gfr 2 0 (mkH (hs l s d tl) I J) b = some 1 := gfr_H h.1 rfl q1
theorem ly1 (h : lyS (hs l s d tl) b) : gfr 2 1 (mkH (hs l s d tl) I J) b = some 8 := gfr_H h.1 rfl q8
theorem ly2 (h : lyS (hs l s d tl) b) : gfr 2 2 (mkH (hs l s d tl) I J) b = some (b + 4) := gfr_H h.1 rfl h.2.2.2.2.1
theorem ly3 (h : lyS (hs l s d tl) b) : gfr 2 3 (mkH (hs l s d tl) I J) b = some (b + 1) := gfr_H h.1 rfl h.2.1
theorem ly4 (h : lyS (hs l s d tl) b) : gfr 2 4 (mkH (hs l s d tl) I J) b = some (b + 2) := gfr_H h.1 rfl h.2.2.1
theorem ly5 (h : lyS (hs l s d tl) b) : gfr 2 5 (mkH (hs l s d tl) I J) b = some (b + 3) := gfr_H h.1 rfl h.2.2.2.1
theorem lyr (h : lyS (hs l s d tl) b) : rcv 2 (mkH (hs l s d tl) I J) b = some () := rcv_H h.1
/-- the cells that Layers may change when it counts ways -/
def lyf (b : Nat) (I I' : hI) (J J' : hJ) : Prop := (∀ c, c ≠ b + 4 → c ≠ b + 6 → c ≠ b + 7 → c ≠ b + 8 → I' c = I c) ∧ ∀ c, c ≠ b + 1 → c ≠ b + 2 → c ≠ b + 5 → J' c = J c
theorem lyf_rf (b : Nat) (I : hI) (J : hJ) : lyf b I I J J := ⟨fun _ _ _ _ _ => rfl, fun _ _ _ _ => rfl⟩
theorem lyf_tr {I' I'' : hI} {J' J'' : hJ} (h : lyf b I I' J J') (h' : lyf b I' I'' J' J'') : lyf b I I'' J J'' := ⟨fun c a1 a2 a3 a4 => (h'.1 c a1 a2 a3 a4).trans (h.1 c a1 a2 a3 a4), fun c a1 a2 a3 => (h'.2 c a1 a2 a3).trans (h.2 c a1 a2 a3)⟩
/-- addWays -/
theorem aw_e (h : lyS (hs l s d tl) b) (hg : cl_n n A I) (hh : shf n A ws (b + 4) 4096 I J) (hF : 9000 ≤ F) {k t : Nat} {u : List Nat} (hk : ws[k]? = some u) (ht : t < n) (hd : dn n A u t) (room : (∀ (m : Nat) (w : List Nat), ws[m]? = some w → cx_g n A w ≠ cx_g n A (u ++ [t])) → ws.length < 4096) : ∃ I' J', e30 F b (nI k) (nI t) (mkH (hs l s d tl) I J) = some ((), (mkH (hs l s d tl) I' J')) ∧ lyf b I I' J J' ∧ ((∃ (m : Nat) (w : List Nat), ws[m]? = some w ∧ cx_g n A w = cx_g n A (u ++ [t]) ∧ shf n A ws (b + 4) 4096 I' J' ∧ ∀ i, J' (b + 2) i = if i = m then J (b + 2) m + J (b + 2) k else J (b + 2) i) ∨ ((∀ (m : Nat) (w : List Nat), ws[m]? = some w → cx_g n A w ≠ cx_g n A (u ++ [t])) ∧ shf n A (ws ++ [u ++ [t]]) (b + 4) 4096 I' J' ∧ ∀ i, J' (b + 2) i = if i = ws.length then J (b + 2) k else J (b + 2) i)) := by
  have hS := h.2.2.2.2
  have hok := hg.1
  have hn5 := hg.2.2.1
  have hn := hg.2.2.2.1
  obtain ⟨hb, hc, hin⟩ := id hh
  have hlen := hc.1
  have hkl := (List.getElem?_eq_some_iff.mp hk).1
  obtain ⟨uL, u31, uw, ul⟩ := hc.2.2 k u hk
  have ut1 := dn_1 hok uL ht hd
  have utL : cx_L n (u ++ [t]) := cx_L_app uL (cx_L_1 ht)
  have w1 : wt n A u (rwJ J (b + 1) 0 n (fun j => J (b + 4 + 1) (k * 5 + j)) (b + 1)) 0 := wt_cp uw
  have w2 := wt_turn w1 ht
  generalize hJ1 : rwJ J (b + 1) 0 n (fun j => J (b + 4 + 1) (k * 5 + j)) = J1 at *
  have c1 : ∀ c, c ≠ b + 1 → J1 c = J c := fun c hc => by rw [← hJ1]; exact rwJ_ne hc
  have e1 : e42 F 1 (b + 4 + 1) (nI k * 5) (b + 1) 0 (mkH (hs l s d tl) I J) = some ((), (mkH (hs l s d tl) I J1)) := by
    rw [← hJ1, n_5, pk_mul]
    show e42 F 1 (b + 4 + 1) (nI (k * 5)) (b + 1) (nI 0) _ = _
    exact cr_e hn hn5 (by omega) hS.2.1 h.2.1 (by omega) (by omega) (by omega) (by omega) (Or.inl (by omega))
  have e2 := tw_e (l := l) (s := s) (d := d) (tl := tl) (F := F) (J := J1) (p := 0) hg (by omega) h.2.1 (by omega) (by omega) ht
  generalize hJ2 : rwJ J1 (b + 1) 0 n (fun j => J1 (b + 1) (0 + j) - J1 (b + 1) (0 + t) * zJ (A j t)) = J2 at *
  have c2 : ∀ c, c ≠ b + 1 → J2 c = J c := fun c hc => by rw [← hJ2, rwJ_ne hc]; exact c1 c hc
  have sh2 : shf n A ws (b + 4) 4096 I J2 := shf_J hh (c2 _ (by omega))
  have el : nI (cx_l n A u) - 1 = nI (cx_l n A (u ++ [t])) := by
    rw [← ut1]
    exact pk_sub1 _
  have hg62 := no_e (F := F) hS hg sh2 hF h.2.1 (by omega) (by omega) (by omega) utL (by omega) w2
  have e88 : ∀ (I' : hI) (J' : hJ) (m : Nat), m < 4096 → m30_88 F b (nI k) (nI m) (mkH (hs l s d tl) I' J') = some ((), (mkH (hs l s d tl) I' (upJ J' (b + 2) m (J' (b + 2) m + J' (b + 2) k)))) := by
    intro I' J' m hm
    unfold m30_88
    rw [ly4 h, Option.bind_some, rdJ_H h.2.2.1 (by omega) hm, Option.bind_some, Option.bind_some, rdJ_H h.2.2.1 (by omega) (by omega), Option.bind_some, wrJ_H h.2.2.1 (by omega) hm, Option.bind_some]
  have z0 : (0 : Int32) = nI 0 := rfl
  have main : ∀ (m : Nat) (I' : hI) (J' : hJ), m < 4096 → e62 F (b + 4) (b + 1) (nI (cx_l n A (u ++ [t]))) (mkH (hs l s d tl) I J2) = some (nI m, (mkH (hs l s d tl) I' J')) → e30 F b (nI k) (nI t) (mkH (hs l s d tl) I J) = if m = ws.length then m30_88 F b (nI k) (nI m) (mkH (hs l s d tl) I' (upJ J' (b + 2) m 0)) else m30_88 F b (nI k) (nI m) (mkH (hs l s d tl) I' J') := by
    intro m I' J' hm he
    show m30_0 F b _ _ _ = _
    unfold m30_0
    rw [ly0 h, Option.bind_some, ly2 h, Option.bind_some, s3 hS, Option.bind_some, ly3 h, Option.bind_some, rc1, Option.bind_some, e1, Option.bind_some, ly0 h, Option.bind_some, ly3 h, Option.bind_some, rc1, Option.bind_some, z0, e2, Option.bind_some, ly2 h, Option.bind_some, s2 hS, Option.bind_some, Option.bind_some, ly3 h, Option.bind_some, Option.bind_some, s4 hS, Option.bind_some, rdI_H hS.2.2.1 (by omega) (by omega), Option.bind_some, sr hS, Option.bind_some, ul, el, he, Option.bind_some, hc.2.1]
    rw [if_pos (show mc2 .ne (nI m) (-1) = true by rw [g_ne]; exact Ne.symm (gI_nI (k := 1) (by omega) (by omega) (by omega)))]
    by_cases hmw : m = ws.length
    · rw [if_pos hmw, if_neg (show ¬ mc2 .ne (nI m) (nI ws.length) = true by rw [c_ne (by omega) (by omega)]; exact fun hh => hh hmw), ly4 h, Option.bind_some, wrJ_H h.2.2.1 (by omega) hm, Option.bind_some]
    · rw [if_neg hmw, if_pos (show mc2 .ne (nI m) (nI ws.length) = true by rw [c_ne (by omega) (by omega)]; exact hmw)]
  rcases hg62 with ⟨m, w, m1, m2, m3⟩ | ⟨m1, ⟨m2, _⟩ | ⟨m2, I3, J3, m3, m4, m5⟩⟩
  · have hml := (List.getElem?_eq_some_iff.mp m1).1
    refine ⟨I, _, by rw [main m I J2 (by omega) m3, if_neg (by omega), e88 _ _ _ (by omega)], ⟨fun _ _ _ _ _ => rfl, fun c a1 a2 a3 => by rw [upJ_ne a2]; exact c2 c a1⟩, Or.inl ⟨m, w, m1, m2, shf_J sh2 (upJ_ne (by omega)), fun i => ?_⟩⟩
    rw [upJ_at, c2 (b + 2) (by omega)]
  · exact absurd (room m1) (by omega)
  · have c3 : J3 (b + 2) = J (b + 2) := by rw [m5.2 _ (by omega)]; exact c2 _ (by omega)
    refine ⟨I3, _, by rw [main ws.length I3 J3 m2 m3, if_pos rfl, e88 _ _ _ m2], ⟨fun c a1 a2 a3 a4 => m5.1 c a1 a2 a3 a4, fun c a1 a2 a3 => by rw [upJ_ne a2, upJ_ne a2, m5.2 c (by omega)]; exact c2 c a1⟩, Or.inr ⟨m1, shf_J m4 (by rw [upJ_ne (by omega), upJ_ne (by omega)]), fun i => ?_⟩⟩
    simp only [upJ_at, c3]
    by_cases hi : i = ws.length
    · rw [if_pos hi, if_pos hi, if_pos trivial, if_neg (by omega), Int64.zero_add]
    · rw [if_neg hi, if_neg hi, if_neg hi]
end S
