/-! The class: Shifts, step. -/
def sig (b : Nat) (I I' : hI) (J J' : hJ) : Prop := (∀ c, c ≠ b + 3 → c ≠ b + 5 → c ≠ b + 6 → c ≠ b + 7 → I' c = I c) ∧ ∀ c, c ≠ b + 1 → c ≠ b + 2 → c ≠ b + 4 → J' c = J c
def siP (n : Nat) (A : Nat → Nat → Int) (b : Nat) (I : hI) (J : hJ) (W : List (List Nat)) (I' : hI) (J' : hJ) : Prop := shf n A (W.map List.reverse) (b + 3) 512 I' J' ∧ (∀ (i : Nat) (u : List Nat), W[i]? = some u → imq n A u (J' (b + 1)) (i * 25)) ∧ W.length ≤ 300 ∧ sig b I I' J J'
theorem g1_e : gI 1 = -1 := rfl
theorem sw_rev (t : Nat) (u : List Nat) : (t :: (u ++ [t])).reverse = (t :: u.reverse) ++ [t] := by
  rw [List.reverse_cons, List.reverse_append]
  rfl
section S
variable {l s d : Value} {tl : List hQ} {F : Nat} {I : hI} {J : hJ} {n b : Nat} {A : Nat → Nat → Int}
theorem mrev {W : List (List Nat)} {k : Nat} {v : List Nat} (h : (W.map List.reverse)[k]? = some v) : ∃ z, W[k]? = some z ∧ v = z.reverse := by
  rw [List.getElem?_map] at h
  cases hk : W[k]? with
  | none => rw [hk] at h; cases h
  | some z =>
    rw [hk] at h
    exact ⟨z, rfl, (Option.some.inj h).symm⟩
theorem mrev_r {W : List (List Nat)} {k : Nat} {z : List Nat} (h : W[k]? = some z) : (W.map List.reverse)[k]? = some z.reverse := by
  rw [List.getElem?_map, h]
  rfl
theorem grev (hok : cx_ok n A) {x y : List Nat} (hx : cx_L n x) (hy : cx_L n y) : cx_g n A x.reverse = cx_g n A y.reverse ↔ cx_g n A x = cx_g n A y := by
  refine ⟨fun h => ?_, fun h => cx_g_rev hok hx hy h⟩
  have := cx_g_rev hok (cx_L_rev hx) (cx_L_rev hy) h
  rw [List.reverse_reverse, List.reverse_reverse] at this
  exact this
theorem stp_e (h : siS (hs l s d tl) b) (hg : cl_n n A I) (hF : 9000 ≤ F) {w : List Nat} (hw20 : cx_l n A w ≤ 20) (wL : cx_L n w) {W : List (List Nat)} {x t : Nat} (ht : t < n) {u : List Nat} (hu : W[x]? = some u) {I1 : hI} {J1 : hJ} (hq : shQ n A w W x t) (hp : siP n A b I J W I1 J1) : ∃ (v : Int32) (I2 : hI) (J2 : hJ), e73 F b (nI x) (nI t) (mkH (hs l s d tl) I1 J1) = some (v, (mkH (hs l s d tl) I2 J2)) ∧ ((v = nI 1 ∧ ∃ W', shQ n A w W' x (t + 1) ∧ siP n A b I J W' I2 J2 ∧ W'[x]? = some u) ∨ (v = nI 0 ∧ siP n A b I J W I2 J2 ∧ ∃ W', lds n A W' ∧ (∀ (i : Nat) (z : List Nat), W'[i]? = some z → cx_L n z ∧ rch n A w z) ∧ 300 < W'.length)) := by
  have hS := h.2.2.2
  have b54 := hS.2.2.2.2.2.1
  have hok := hg.1
  have hn5 := hg.2.2.1
  obtain ⟨p1, p2, p3, p4⟩ := hp
  have g1 : cl_n n A I1 := cl_fr hg (p4.1 1 (by omega) (by omega) (by omega) (by omega)) (p4.1 3 (by omega) (by omega) (by omega) (by omega))
  have hxl := (List.getElem?_eq_some_iff.mp hu).1
  obtain ⟨uL, ur⟩ := hq.2.2.1 x u hu
  have ul := (rch_L wL ur).2
  have c1 := p1.2.1.2.2 x _ (mrev_r hu)
  have clen := p1.2.1.1
  have n2 : I1 (b + 3) 2 = nI W.length := by rw [p1.2.1.2.1, List.length_map]
  have lu : I1 (b + 3 + 2) x = nI (cx_l n A u) := by rw [c1.2.2.2, cx_l_rev hok uL]
  obtain ⟨v1, J2, e1, d1, w1, f1⟩ := wgr_e (F := F) h g1 hF (show x < 300 by omega) ht uL (by omega) (p2 x u hu) c1.2.2.1
  have utL : cx_L n (u ++ [t]) := cx_L_app uL (cx_L_1 ht)
  have tuL : cx_L n (t :: u.reverse) := cx_L_cons ht (cx_L_rev uL)
  have lr : cx_l n A (t :: u.reverse) = cx_l n A (u ++ [t]) := by
    rw [← cx_l_rev hok utL, List.reverse_append]
    rfl
  have zL : cx_L n (t :: (u ++ [t])) := cx_L_cons ht utL
  have lz : cx_l n A ((t :: u.reverse) ++ [t]) = cx_l n A (t :: (u ++ [t])) := by rw [← sw_rev, cx_l_rev hok zL]
  have s1 : nI (cx_l n A u) + v1 = nI (cx_l n A (u ++ [t])) := by
    rcases d1 with ⟨rfl, hd⟩ | ⟨rfl, hd⟩
    · have := dn_1 hok uL ht hd
      rw [← this, g1_e]
      exact nI_am1 _
    · rw [up_1 hok uL ht hd, nI_add]
  have lut : cx_l n A (u ++ [t]) ≤ 21 := by
    rcases cx_rstep hok uL ht with hh | hh <;> omega
  have dn2 := wt_dn hok tuL (by omega) w1 ht
  rw [Nat.zero_add] at dn2
  have lzz : cx_l n A (t :: (u ++ [t])) ≤ 22 := by
    rcases cx_lstep hok utL ht with hh | hh <;> omega
  have e0 : e73 F b (nI x) (nI t) (mkH (hs l s d tl) I1 J1) = m73_34 F b (nI x) (nI t) (nI (cx_l n A (u ++ [t]))) (if J2 (b + 2) t < 0 then -1 else 1) (mkH (hs l s d tl) I1 J2) := by
    show m73_0 F b _ _ _ = _
    unfold m73_0
    rw [si2 h, Option.bind_some, s4 hS, Option.bind_some, rdI_H hS.2.2.1 (by omega) (by omega), Option.bind_some, lu, sir h, Option.bind_some, e1, Option.bind_some, si4 h, Option.bind_some, rdJ_H h.2.2.1 (by omega) (by omega), Option.bind_some, s1]
    by_cases hlt : J2 (b + 2) t < 0
    · rw [if_neg (show ¬ mc1 .ge (lg_cmp (J2 (b + 2) t) 0) = true by rw [k_ge]; exact fun hh => hh hlt), if_pos hlt]
    · rw [if_pos (show mc1 .ge (lg_cmp (J2 (b + 2) t) 0) = true by rw [k_ge]; exact hlt), if_neg hlt]
  have s2' : nI (cx_l n A (u ++ [t])) + (if J2 (b + 2) t < 0 then -1 else 1) = nI (cx_l n A (t :: (u ++ [t]))) := by
    by_cases hlt : J2 (b + 2) t < 0
    · have hd := dn2.mp hlt
      have := dn_1 hok tuL ht hd
      rw [lz, lr] at this
      rw [if_pos hlt, ← this]
      exact nI_am1 _
    · have hd : ¬ dn n A (t :: u.reverse) t := fun hh => hlt (dn2.mpr hh)
      have := up_1 hok tuL ht hd
      rw [lz, lr] at this
      rw [if_neg hlt, this, n_1, nI_add]
  have fr2 : sig b I I1 J J2 := ⟨p4.1, fun c a1 a2 a3 => by rw [f1 c a2]; exact p4.2 c a1 a2 a3⟩
  have sh2 : shf n A (W.map List.reverse) (b + 3) 512 I1 J2 := shf_J p1 (f1 _ (by omega))
  have im2 : ∀ (i : Nat) (z : List Nat), W[i]? = some z → imq n A z (J2 (b + 1)) (i * 25) := fun i z hz => by rw [f1 _ (by omega)]; exact p2 i z hz
  rw [e0]
  unfold m73_34
  rw [si2 h, Option.bind_some, s4 hS, Option.bind_some, rdI_H hS.2.2.1 (by omega) (by omega), Option.bind_some, lu, s2']
  by_cases hle : cx_l n A (t :: (u ++ [t])) ≤ cx_l n A u
  · rw [if_pos (show mc2 .le (nI (cx_l n A (t :: (u ++ [t])))) (nI (cx_l n A u)) = true by rw [c_le (by omega) (by omega)]; exact hle)]
    have e3 := tw_e (l := l) (s := s) (d := d) (tl := tl) (F := F) (I := I1) (J := J2) (p := 0) g1 (by omega) h.2.2.1 (by omega) (by omega) ht
    have w2 := wt_turn w1 ht
    generalize hJ3 : rwJ J2 (b + 2) 0 n (fun j => J2 (b + 2) (0 + j) - J2 (b + 2) (0 + t) * zJ (A j t)) = J3 at *
    have c3 : ∀ c, c ≠ b + 2 → J3 c = J2 c := fun c hc => by rw [← hJ3]; exact rwJ_ne hc
    have sh3 : shf n A (W.map List.reverse) (b + 3) 512 I1 J3 := shf_J sh2 (c3 _ (by omega))
    have im3 : ∀ (i : Nat) (z : List Nat), W[i]? = some z → imq n A z (J3 (b + 1)) (i * 25) := fun i z hz => by rw [c3 _ (by omega)]; exact im2 i z hz
    have fr3 : sig b I I1 J J3 := ⟨p4.1, fun c a1 a2 a3 => by rw [c3 c a2]; exact fr2.2 c a1 a2 a3⟩
    have zr : cx_L n ((t :: u.reverse) ++ [t]) := cx_L_app tuL (cx_L_1 ht)
    have gz : ∀ (z : List Nat), cx_L n z → (cx_g n A z.reverse = cx_g n A ((t :: u.reverse) ++ [t]) ↔ cx_g n A z = cx_g n A (t :: (u ++ [t]))) := fun z hz => by
      rw [← sw_rev]
      exact grev hok hz zL
    have z0 : (0 : Int32) = nI 0 := rfl
    rw [si0 h, Option.bind_some, si4 h, Option.bind_some, rc1, Option.bind_some, z0, e3, Option.bind_some, si2 h, Option.bind_some, s2 hS, Option.bind_some, n2]
    by_cases h300 : W.length = 300
    · rw [if_pos (show mc2 .ge (nI W.length) 300 = true by rw [n_300, c_ge (by omega) (by omega)]; omega), Option.bind_some, si4 h, Option.bind_some, sr hS, Option.bind_some]
      rcases fi_e (F := F) hS g1 sh3 hF h.2.2.1 (by omega) (by omega) zr (by omega) w2 with ⟨k, y, k1, k2, e4⟩ | ⟨k1, e4⟩
      · obtain ⟨z, hz, rfl⟩ := mrev k1
        have hkl := (List.getElem?_eq_some_iff.mp hz).1
        rw [e4, Option.bind_some, if_neg (show ¬ mc2 .eq (nI k) (-1) = true by rw [g_eq]; exact Ne.symm (gI_nI (k := 1) (by omega) (by omega) (by omega)))]
        refine ⟨nI 1, I1, J3, ?_, Or.inl ⟨rfl, W, shQ_n hq hu (Or.inr ⟨k, z, hz, (gz z (hq.2.2.1 k z hz).1).mp k2⟩), ⟨sh3, im3, p3, fr3⟩, hu⟩⟩
        unfold m73_133
        rw [if_pos (by decide)]
        try rfl
      · rw [e4, Option.bind_some, if_pos (show mc2 .eq (gI 1) (-1) = true by decide)]
        have hnew : ∀ (m : Nat) (z : List Nat), W[m]? = some z → cx_g n A z ≠ cx_g n A (t :: (u ++ [t])) := fun m z hz hgz => k1 m _ (mrev_r hz) ((gz z (hq.2.2.1 m z hz).1).mpr hgz)
        obtain ⟨b1, b2⟩ := shQ_b hq hu ht hle zL rfl hnew
        refine ⟨nI 0, I1, J3, ?_, Or.inr ⟨rfl, ⟨sh3, im3, p3, fr3⟩, W ++ [t :: (u ++ [t])], b1, b2, by rw [List.length_append, h300]; simp⟩⟩
        unfold m73_133
        rw [if_pos (by decide)]
        try rfl
    · rw [if_neg (show ¬ mc2 .ge (nI W.length) 300 = true by rw [n_300, c_ge (by omega) (by omega)]; omega), Option.bind_some, s2 hS, Option.bind_some, n2, Option.bind_some, si4 h, Option.bind_some, sr hS, Option.bind_some]
      have hn62 := no_e (F := F) hS g1 sh3 hF h.2.2.1 (by omega) (by omega) (by omega) zr (by omega) w2
      rw [lz] at hn62
      rcases hn62 with ⟨k, y, k1, k2, e4⟩ | ⟨k1, ⟨k2, _⟩ | ⟨k2, I4, J4, e4, k4, k5⟩⟩
      · obtain ⟨z, hz, rfl⟩ := mrev k1
        have hkl := (List.getElem?_eq_some_iff.mp hz).1
        rw [e4, Option.bind_some, if_pos (show mc2 .ne (nI k) (nI W.length) = true by rw [c_ne (by omega) (by omega)]; omega)]
        exact ⟨nI 1, I1, J3, rfl, Or.inl ⟨rfl, W, shQ_n hq hu (Or.inr ⟨k, z, hz, (gz z (hq.2.2.1 k z hz).1).mp k2⟩), ⟨sh3, im3, p3, fr3⟩, hu⟩⟩
      · rw [List.length_map] at k2
        omega
      · rw [List.length_map] at e4
        have hnew : ∀ (m : Nat) (z : List Nat), W[m]? = some z → cx_g n A z ≠ cx_g n A (t :: (u ++ [t])) := fun m z hz hgz => k1 m _ (mrev_r hz) ((gz z (hq.2.2.1 m z hz).1).mpr hgz)
        have g4 : cl_n n A I4 := cl_fr g1 (k5.1 1 (by omega) (by omega) (by omega) (by omega)) (k5.1 3 (by omega) (by omega) (by omega) (by omega))
        have im4 : ∀ (i : Nat) (z : List Nat), W[i]? = some z → imq n A z (J4 (b + 1)) (i * 25) := fun i z hz => by rw [k5.2 _ (by omega)]; exact im3 i z hz
        obtain ⟨J5, e5, i5, f5, o5⟩ := dri_e (F := F) (J := J4) h g4 hF hxl (show W.length < 300 by omega) ht (im4 x u hu)
        rw [e4, Option.bind_some, if_neg (show ¬ mc2 .ne (nI W.length) (nI W.length) = true by rw [c_ne (by omega) (by omega)]; omega), sir h, Option.bind_some, e5, Option.bind_some]
        refine ⟨nI 1, I4, J5, rfl, Or.inl ⟨rfl, W ++ [t :: (u ++ [t])], shQ_a hq hu ht hle zL rfl hnew, ⟨?_, fun i z hz => ?_, by rw [List.length_append]; simp; omega, ?_⟩, ap_l hu⟩⟩
        · rw [List.map_append]
          show shf n A (W.map List.reverse ++ [(t :: (u ++ [t])).reverse]) (b + 3) 512 I4 J5
          rw [sw_rev]
          exact shf_J k4 (f5 _ (by omega))
        · rcases ap_c hz with hz1 | ⟨rfl, rfl⟩
          · have hil := (List.getElem?_eq_some_iff.mp hz1).1
            intro i' hi' k' hk'
            rw [o5 _ (by omega)]
            exact im4 i z hz1 i' hi' k' hk'
          · exact i5
        · exact ⟨fun c a1 a2 a3 a4 => by rw [k5.1 c a1 a2 a3 a4]; exact p4.1 c a1 a2 a3 a4, fun c a1 a2 a3 => by rw [f5 c a1, k5.2 c a3]; exact fr3.2 c a1 a2 a3⟩
  · rw [if_neg (show ¬ mc2 .le (nI (cx_l n A (t :: (u ++ [t])))) (nI (cx_l n A u)) = true by rw [c_le (by omega) (by omega)]; exact hle)]
    exact ⟨nI 1, I1, J2, rfl, Or.inl ⟨rfl, W, shQ_n hq hu (Or.inl (by omega)), ⟨sh2, im2, p3, fr2⟩, hu⟩⟩
end S
