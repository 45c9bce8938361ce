/-! The class: Ideal, under, numberAt and countRough. -/
/-- the data of w = els[w] that the cache holds -/
def idW (n : Nat) (A : Nat → Nat → Int) (Q : List (List Nat) → Nat → (Nat → Int64) → Prop) (b w : Nat) (y : List Nat) (W : List (List Nat)) (top : Nat) (x : List Nat) (I : hI) (J : hJ) : Prop := I b 7 = nI w ∧ bqA n A y W ∧ shf n A W (b + 5) 256 I J ∧ W[top]? = some x ∧ cx_g n A x = cx_g n A y ∧ I b 8 = nI top ∧ Q W top (fun k => J (b + 3) (top * 256 + k))
/-- the cache -/
def idD (n : Nat) (A : Nat → Nat → Int) (Q : List (List Nat) → Nat → (Nat → Int64) → Prop) (els : List (List Nat)) (b : Nat) (I : hI) (J : hJ) : Prop := sfb (b + 5) 256 I ∧ (I b 7 = gI 1 ∨ ∃ (w : Nat) (y : List Nat) (W : List (List Nat)) (top : Nat) (x : List Nat), els[w]? = some y ∧ y.length ≤ 8 ∧ idW n A Q b w y W top x I J)
theorem c_8 : (8 : Int32) = nI 8 := rfl
section S
variable {l s d : Value} {tl : List hQ} {F : Nat} {I : hI} {J : hJ} {n b : Nat} {A : Nat → Nat → Int} {W : List (List Nat)} {y : List Nat} {Q : List (List Nat) → Nat → (Nat → Int64) → Prop}
/-- under -/
theorem prep_e (h : idS (hs l s d tl) b) (hb54 : 54 ≤ b) (hg : cl_n n A I) {els : List (List Nat)} (hk : kp n A els I J) (hD : idD n A Q els b I J) (hF : 9000 ≤ F) {w : Nat} (hy : els[w]? = some y) (h8 : y.length ≤ 8) (hQ : ∀ W, bqA n A y W → filQ n A W (Q W)) : ∃ (W : List (List Nat)) (top : Nat) (x : List Nat) (I' : hI) (J' : hJ), e5 F b (nI w) (mkH (hs l s d tl) I J) = some (b, (mkH (hs l s d tl) I' J')) ∧ idf b I I' J J' ∧ idW n A Q b w y W top x I' J' := by
  have hS := h.2.2.2.2.2
  have hok := hg.1
  have hn5 := hg.2.2.1
  obtain ⟨yc, yL, yl, y20, w40, yb⟩ := kp_c hk hy
  by_cases hne : I b 7 = nI w
  · rcases hD.2 with h7 | ⟨w', y', W, top, x, a1, a2, a3⟩
    · rw [hne] at h7
      exact absurd h7.symm (gI_nI (k := 1) (by omega) (by omega) (by omega))
    · have hw' := (kp_lt hk a1).2
      have : w' = w := by
        have := a3.1
        rw [hne] at this
        exact ((nI_eq (by omega) (by omega)).mp this).symm
      subst this
      rw [hy] at a1
      cases a1
      refine ⟨W, top, x, I, J, ?_, idf_rf b I J, a3⟩
      show m5_0 F b _ _ = _
      unfold m5_0
      rw [ig7 h, Option.bind_some, hne, if_neg (show ¬ mc2 .ne (nI w') (nI w') = true by rw [g_ne]; exact fun hh => hh rfl)]
  · obtain ⟨W, I1, J1, e1, r1, r2, r3, r4, r5, r6⟩ := ga_e (F := F) h hb54 hg hk hD.1 hF hy h8
    have hW := r2.2.1.1
    have g1 := cl_id hg r5 hb54
    have k1 := kp_id hk r5 hb54
    obtain ⟨_, _, _, _, _, yw⟩ := k1.2.2.2.2 w y hy
    have hl8 : ∀ (i : Nat) (u : List Nat), W[i]? = some u → cx_l n A u ≤ 8 := fun i u hu => by
      have := bqS_l (r1.2.2.1 i u hu).1 (r1.2.2.1 i u hu).2 yL
      omega
    have e2 : e42 F 1 12 (nI w * 5) (b + 1) 0 (mkH (hs l s d tl) I1 J1) = some ((), (mkH (hs l s d tl) I1 (rwJ J1 (b + 1) 0 n (fun j => J1 12 (w * 5 + j))))) := by
      rw [n_5, pk_mul]
      show e42 F 1 12 (nI (w * 5)) (b + 1) (nI 0) _ = _
      exact cr_e g1.2.2.2.1 hn5 (by omega) q12 h.2.1 (by omega) (by omega) (by omega) (by omega) (Or.inl (by omega))
    have w1 : wt n A y (rwJ J1 (b + 1) 0 n (fun j => J1 12 (w * 5 + j)) (b + 1)) 0 := wt_cp yw
    generalize hJ2 : rwJ J1 (b + 1) 0 n (fun j => J1 12 (w * 5 + j)) = J2 at *
    have c2 : ∀ c, c ≠ b + 1 → J2 c = J1 c := fun c hc => by rw [← hJ2]; exact rwJ_ne hc
    have sh2 : shf n A W (b + 5) 256 I1 J2 := shf_J r2 (c2 _ (by omega))
    obtain ⟨i0, u0, hu0, hg0⟩ := r1.2.2.2 y (List.Sublist.refl y)
    have fd : ∃ (k : Nat) (x : List Nat), W[k]? = some x ∧ cx_g n A x = cx_g n A y ∧ e63 F (b + 5) (b + 1) (mkH (hs l s d tl) I1 J2) = some (nI k, (mkH (hs l s d tl) I1 J2)) := by
      rcases fi_e (F := F) hS g1 sh2 hF h.2.1 (by omega) (by omega) yL (by omega) w1 with ⟨k, v, k1, k2, e3⟩ | ⟨k1, e3⟩
      · exact ⟨k, v, k1, k2, e3⟩
      · exact absurd hg0 (k1 i0 u0 hu0)
    obtain ⟨k, x, hx, hgx, e3⟩ := fd
    have hkl := (List.getElem?_eq_some_iff.mp hx).1
    have i8 : upI I1 b 8 (nI k) b 8 = nI k := by rw [upI_at, if_pos rfl]
    have in8 : ∀ c, c ≠ b → upI I1 b 8 (nI k) c = I1 c := fun c hc => upI_ne hc
    generalize hI2 : upI I1 b 8 (nI k) = I2 at *
    have xl : cx_l n A x ≤ 8 := hl8 k x hx
    have st : filS n A W b (Q W) (cx_l n A x) I2 J2 := by
      refine ⟨cl_fr g1 (in8 1 (by omega)) (in8 3 (by omega)), shf_at sh2 (in8 _ (by omega)) (in8 _ (by omega)) (in8 _ (by omega)) (in8 _ (by omega)) rfl, fun i t u hu ht => ?_, fun i u hu => ?_, fun i u hu _ hf => ?_⟩
      · rw [in8 (b + 2) (by omega)]
        exact r3 i t u hu ht
      · rw [in8 (b + 4) (by omega)]
        exact Or.inl (r4 i (List.getElem?_eq_some_iff.mp hu).1)
      · rw [in8 (b + 4) (by omega), r4 i (List.getElem?_eq_some_iff.mp hu).1] at hf
        exact absurd hf (by decide)
    obtain ⟨I3, J3, e4, s1, s2', s3'⟩ := fil_e (F := F) h hb54 hF yL r1 (hQ W r1) hW hl8 12 8 k x I2 J2 (by omega) hx (by omega) (by omega) st
    have i7 : upI I3 b 7 (nI w) b 7 = nI w := by rw [upI_at, if_pos rfl]
    have i78 : upI I3 b 7 (nI w) b 8 = nI k := by rw [upI_at, if_neg (by omega), s2'.1 b (by omega) (by omega)]; exact i8
    have in7 : ∀ c, c ≠ b → upI I3 b 7 (nI w) c = I3 c := fun c hc => upI_ne hc
    refine ⟨W, k, x, upI I3 b 7 (nI w), J3, ?_, fun c hc => ⟨?_, ?_⟩, i7, r1, shf_at s1.2.1 (in7 _ (by omega)) (in7 _ (by omega)) (in7 _ (by omega)) (in7 _ (by omega)) rfl, hx, hgx, i78, s1.2.2.2.2 k x hx (Nat.le_refl _) s3'⟩
    · show m5_0 F b _ _ = _
      unfold m5_0
      rw [ig7 h, Option.bind_some, if_pos (show mc2 .ne (I b 7) (nI w) = true by rw [g_ne]; exact hne), idr h, Option.bind_some, e1, Option.bind_some, id0 h, Option.bind_some, id1 h, Option.bind_some, gr8_5, Option.bind_some, id3 h, Option.bind_some, rc1, Option.bind_some, e2, Option.bind_some, id2 h, Option.bind_some, id3 h, Option.bind_some, sr hS, Option.bind_some, e3, Option.bind_some, ip8 h, Option.bind_some, hI2, ig8 h, Option.bind_some, i8, if_neg (show ¬ mc2 .eq (nI k) (-1) = true by rw [g_eq]; exact Ne.symm (gI_nI (k := 1) (by omega) (by omega) (by omega))), Option.bind_some, c_8, e4, Option.bind_some]
      unfold m5_70
      rw [ip7 h, Option.bind_some]
    · rw [in7 c (by omega), s2'.1 c (by omega) (by omega), in8 c (by omega)]
      exact (r5 c hc).1
    · rw [s2'.2.1 c (by omega) (by omega), c2 c (by omega)]
      exact (r5 c hc).2
/-- numberAt -/
theorem numb_e (h : idS (hs l s d tl) b) (hb54 : 54 ≤ b) (hg : cl_n n A I) {els : List (List Nat)} (hk : kp n A els I J) (hF : 9000 ≤ F) {i w top : Nat} {u x : List Nat} (hu : els[i]? = some u) (hW : idW n A Q b w y W top x I J) (k : Int32) : ∃ (v : Int32) (J' : hJ), e2 F b (nI i) k (mkH (hs l s d tl) I J) = some (v, (mkH (hs l s d tl) I J')) ∧ (∀ c, c ≠ b + 1 → J' c = J c) ∧ ((∃ (m : Nat) (z : List Nat), W[m]? = some z ∧ cx_g n A z = cx_g n A u ∧ v = cofV (J (b + 3) (top * 256 + m)) k) ∨ ((∀ (m : Nat) (z : List Nat), W[m]? = some z → cx_g n A z ≠ cx_g n A u) ∧ v = 0)) := by
  have hS := h.2.2.2.2.2
  have hok := hg.1
  have hn5 := hg.2.2.1
  obtain ⟨uc, uL, ul, u20, i40, ub⟩ := kp_c hk hu
  obtain ⟨_, _, _, _, _, uw⟩ := hk.2.2.2.2 i u hu
  obtain ⟨a1, a2, a3, a4, a5, a6, a7⟩ := hW
  have hlen := a3.2.1.1
  have htl := (List.getElem?_eq_some_iff.mp a4).1
  have ec : e42 F 1 12 (nI i * 5) (b + 1) 0 (mkH (hs l s d tl) I J) = some ((), (mkH (hs l s d tl) I (rwJ J (b + 1) 0 n (fun j => J 12 (i * 5 + j))))) := by
    rw [n_5, pk_mul]
    show e42 F 1 12 (nI (i * 5)) (b + 1) (nI 0) _ = _
    exact cr_e hg.2.2.2.1 hn5 (by omega) q12 h.2.1 (by omega) (by omega) (by omega) (by omega) (Or.inl (by omega))
  have w1 : wt n A u (rwJ J (b + 1) 0 n (fun j => J 12 (i * 5 + j)) (b + 1)) 0 := wt_cp uw
  generalize hJ2 : rwJ J (b + 1) 0 n (fun j => J 12 (i * 5 + j)) = J2 at *
  have c2 : ∀ c, c ≠ b + 1 → J2 c = J c := fun c hc => by rw [← hJ2]; exact rwJ_ne hc
  have sh2 : shf n A W (b + 5) 256 I J2 := shf_J a3 (c2 _ (by omega))
  have pre : ∀ v, e63 F (b + 5) (b + 1) (mkH (hs l s d tl) I J2) = some (v, (mkH (hs l s d tl) I J2)) → e2 F b (nI i) k (mkH (hs l s d tl) I J) = if mc2 .eq v (-1) = true then m2_47 F (mkH (hs l s d tl) I J2) else (rdJ (mkH (hs l s d tl) I J2) (b + 3) ((nI top * 256) + v)).bind fun x16 => (e4 F x16 k (mkH (hs l s d tl) I J2)).bind fun q17 => m2_70 F q17.1 q17.2 := by
    intro v hv
    show m2_0 F b _ _ _ = _
    unfold m2_0
    rw [id0 h, Option.bind_some, id1 h, Option.bind_some, gr8_5, Option.bind_some, id3 h, Option.bind_some, rc1, Option.bind_some, ec, Option.bind_some, id2 h, Option.bind_some, id3 h, Option.bind_some, sr hS, Option.bind_some, hv, Option.bind_some, ig8 h, Option.bind_some, a6, if_pos (show mc2 .ne (nI top) (-1) = true by rw [g_ne]; exact Ne.symm (gI_nI (k := 1) (by omega) (by omega) (by omega))), id5 h, Option.bind_some, Option.bind_some]
  rcases fi_e (F := F) hS hg sh2 hF h.2.1 (by omega) (by omega) uL (by omega) w1 with ⟨m, z, k1, k2, e3⟩ | ⟨k1, e3⟩
  · have hml := (List.getElem?_eq_some_iff.mp k1).1
    refine ⟨cofV (J (b + 3) (top * 256 + m)) k, J2, ?_, c2, Or.inl ⟨m, z, k1, k2, rfl⟩⟩
    rw [pre _ e3, if_neg (show ¬ mc2 .eq (nI m) (-1) = true by rw [g_eq]; exact Ne.symm (gI_nI (k := 1) (by omega) (by omega) (by omega))), c_256, pk_mul, nI_add, rdJ_H h.2.2.2.1 (by omega) (by omega), Option.bind_some, icof_e, Option.bind_some, c2 (b + 3) (by omega)]
    rfl
  · refine ⟨0, J2, ?_, c2, Or.inr ⟨k1, rfl⟩⟩
    rw [pre _ e3, if_pos (show mc2 .eq (gI 1) (-1) = true by decide)]
    rfl
/-- countRough -/
theorem roug_e (h : idS (hs l s d tl) b) (hF : 9000 ≤ F) {w top : Nat} {x : List Nat} (hW : idW n A Q b w y W top x I J) : e3 F b (mkH (hs l s d tl) I J) = some (nI (((List.range W.length).filter (fun m => decide (J (b + 3) (top * 256 + m) ≠ 1))).length), (mkH (hs l s d tl) I J)) := by
  have hS := h.2.2.2.2.2
  obtain ⟨a1, a2, a3, a4, a5, a6, a7⟩ := hW
  have hlen := a3.2.1.1
  have htl := (List.getElem?_eq_some_iff.mp a4).1
  have e0 : e3 F b (mkH (hs l s d tl) I J) = m3_14 F F b (nI 0) (nI 0) (mkH (hs l s d tl) I J) := by
    show m3_0 F b _ = _
    unfold m3_0
    rw [ig8 h, Option.bind_some, a6, if_pos (show mc2 .ne (nI top) (-1) = true by rw [g_ne]; exact Ne.symm (gI_nI (k := 1) (by omega) (by omega) (by omega)))]
    rfl
  rw [e0]
  refine lpc (σ := Nat) (R := Option (Int32 × List mE)) (fun f m c => m3_14 F f b (nI c) (nI m) (mkH (hs l s d tl) I J)) W.length (fun m c => c = ((List.range m).filter (fun m => decide (J (b + 3) (top * 256 + m) ≠ 1))).length ∧ c ≤ m) (fun r => r = some (nI (((List.range W.length).filter (fun m => decide (J (b + 3) (top * 256 + m) ≠ 1))).length), (mkH (hs l s d tl) I J))) ?_ ?_ F 0 0 (by omega) (by omega) ⟨rfl, by omega⟩
  · rintro f c ⟨p1, p2⟩
    show m3_14 F (f + 1) b (nI c) (nI W.length) (mkH (hs l s d tl) I J) = _
    rw [m3_14, id2 h, Option.bind_some, s2 hS, Option.bind_some, a3.2.1.2.1, if_pos (show mc2 .ge (nI W.length) (nI W.length) = true by rw [c_ge (by omega) (by omega)]; omega), p1]
  · rintro f m c hm ⟨p1, p2⟩
    right
    have pre : m3_14 F (f + 1) b (nI c) (nI m) (mkH (hs l s d tl) I J) = if mc1 .eq (lg_cmp (J (b + 3) (top * 256 + m)) 1) = true then m3_14 F f b (nI c) (nI (m + 1)) (mkH (hs l s d tl) I J) else m3_14 F f b (nI (c + 1)) (nI (m + 1)) (mkH (hs l s d tl) I J) := by
      rw [m3_14, id2 h, Option.bind_some, s2 hS, Option.bind_some, a3.2.1.2.1, if_neg (show ¬ mc2 .ge (nI m) (nI W.length) = true by rw [c_ge (by omega) (by omega)]; omega), id5 h, Option.bind_some, ig8 h, Option.bind_some, a6, c_256, pk_mul, nI_add, rdJ_H h.2.2.2.1 (by omega) (by omega), Option.bind_some]
      unfold m3_48
      rw [n_1, nI_add, nI_add]
    by_cases h1 : J (b + 3) (top * 256 + m) = 1
    · refine ⟨c, ?_, ?_, by omega⟩
      · show m3_14 F (f + 1) b (nI c) (nI m) (mkH (hs l s d tl) I J) = _
        rw [pre, h1, if_pos (show mc1 .eq (lg_cmp (1 : Int64) 1) = true by decide)]
      · rw [List.range_succ, List.filter_append, List.length_append, ← p1]
        simp [h1]
    · refine ⟨c + 1, ?_, ?_, by omega⟩
      · show m3_14 F (f + 1) b (nI c) (nI m) (mkH (hs l s d tl) I J) = _
        rw [pre, if_neg (show ¬ mc1 .eq (lg_cmp (J (b + 3) (top * 256 + m)) 1) = true by rw [k_eq]; exact h1)]
      · rw [List.range_succ, List.filter_append, List.length_append, ← p1]
        simp [h1]
end S
