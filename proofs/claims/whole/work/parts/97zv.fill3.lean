/-! The class: Ideal, fill. -/
section S
variable {l s d : Value} {tl : List hQ} {F : Nat} {I : hI} {J : hJ} {n b : Nat} {A : Nat → Nat → Int} {W : List (List Nat)} {y : List Nat} {Q : Nat → (Nat → Int64) → Prop}
theorem fil_e (h : idS (hs l s d tl) b) (hb54 : 54 ≤ b) (hF : 9000 ≤ F) (yL : cx_L n y) (hA : bqA n A y W) (hQ : filQ n A W Q) (hW : W.length ≤ 256) (hl8 : ∀ (i : Nat) (u : List Nat), W[i]? = some u → cx_l n A u ≤ 8) : ∀ (g D x : Nat) (u : List Nat) (I : hI) (J : hJ), D ≤ 8 → W[x]? = some u → cx_l n A u < g → cx_l n A u ≤ D → filS n A W b Q (cx_l n A u) I J → ∃ (I' : hI) (J' : hJ), e10 F g b (nI x) (nI D) (mkH (hs l s d tl) I J) = some ((), (mkH (hs l s d tl) I' J')) ∧ filS n A W b Q (cx_l n A u) I' J' ∧ filG n A W b (cx_l n A u) x I I' J J' ∧ I' (b + 4) x = nI 1 := by
  have hS := h.2.2.2.2.2
  intro g
  induction g with
  | zero => exact fun D x u I J _ _ hh => by omega
  | succ g ih =>
    intro D x u I J hD hu hug huD hst
    have hg := hst.1
    have hok := hg.1
    have hn5 := hg.2.2.1
    have hxl := (List.getElem?_eq_some_iff.mp hu).1
    have hrd : rdZ (mkH (hs l s d tl) I J) (b + 4) (nI x) = some (I (b + 4) x) := rdZ_H h.2.2.2.2.1 (by omega) (by omega)
    rcases hst.2.2.2.1 x u hu with f0 | f1
    · -- it is not filled
      have hI1 : ∀ c, c ≠ b + 4 → upI I (b + 4) x 1 c = I c := fun c hc => upI_ne hc
      have f1x : upI I (b + 4) x 1 (b + 4) x = nI 1 := by rw [upI_at, if_pos rfl]; rfl
      have f1n : ∀ i, i ≠ x → upI I (b + 4) x 1 (b + 4) i = I (b + 4) i := fun i hi => by rw [upI_at, if_neg hi]
      generalize hII : upI I (b + 4) x 1 = I1 at *
      have g1 : cl_n n A I1 := cl_fr hg (hI1 1 (by omega)) (hI1 3 (by omega))
      have sh1 : shf n A W (b + 5) 256 I1 J := shf_at hst.2.1 (hI1 _ (by omega)) (hI1 _ (by omega)) (hI1 _ (by omega)) (hI1 _ (by omega)) rfl
      have bm1 : bmT n A W b I1 := fun i t v hv ht => by
        rw [hI1 (b + 2) (by omega)]
        exact hst.2.2.1 i t v hv ht
      have st1 : ∀ L, L < cx_l n A u → filS n A W b Q L I1 J := fun L hL => ⟨g1, sh1, bm1, fun i v hv => by
        by_cases hi : i = x
        · exact Or.inr (by rw [hi]; exact f1x)
        · rw [f1n i hi]
          exact hst.2.2.2.1 i v hv, fun i v hv hvl hf => by
        have hi : i ≠ x := fun hh => by
          rw [hh, hu] at hv
          cases hv
          omega
        rw [f1n i hi] at hf
        exact hst.2.2.2.2 i v hv (by omega) hf⟩
      obtain ⟨uL, u31, uw, ul⟩ := sh1.2.1.2.2 x u hu
      obtain ⟨v, e5, hv⟩ := lb_e (l := l) (s := s) (d := d) (tl := tl) (F := F) (I := I1) (J := J) (a := b + 5 + 1) (o := x * 5) g1.2.2.2.1 hn5 (by omega) hS.2.1 (by omega) (by omega) (all32 n hn5)
      have hv2 : lst n (fun t => dn n A u t) v := lst_sw hv (fun t ht => by
        have k1 := wt_dn hok uL u31 uw ht
        have k2 := allbit n hn5 t ht
        exact ⟨fun hh => k1.mp hh.1, fun hh => ⟨k1.mpr hh, k2⟩⟩)
      have pre : e10 F (g + 1) b (nI x) (nI D) (mkH (hs l s d tl) I J) = if mc2 .ne v (-1) = true then (rcv 0 (mkH (hs l s d tl) I1 J) b).bind fun u17 => (e9 F b (nI x) v (mkH (hs l s d tl) I1 J)).bind fun q16 => m10_61 F (e10 F g) b (nI x) (nI D) v q16.1 q16.2 else m10_61 F (e10 F g) b (nI x) (nI D) v (-1) (mkH (hs l s d tl) I1 J) := by
        show m10_0 F (e10 F g) b (nI x) (nI D) _ = _
        unfold m10_0
        rw [id6 h, Option.bind_some, hrd, Option.bind_some, f0, if_neg (show ¬ mc1 .ne (nI 0) = true by decide), if_pos (dp_ge D (by omega)), Option.bind_some, wrZ_H h.2.2.2.2.1 (by omega) (by omega) (Or.inr rfl), Option.bind_some, hII, id0 h, Option.bind_some, id2 h, Option.bind_some, s3 hS, Option.bind_some, Option.bind_some, rc1, Option.bind_some, am_e g1.2.2.2.1 hn5 (by have := hg.2.1; omega), Option.bind_some, rc1, Option.bind_some, n_5, pk_mul, e5, Option.bind_some]
      rcases hv2 with ⟨t, ht, rfl, hd, -⟩ | ⟨rfl, hno⟩
      · -- a descent
        obtain ⟨j', z', hz', hgz'⟩ := bqA_d hok yL hA hu ht hd
        obtain ⟨v2, I2, J2, e6, r1, r2, r3, r4⟩ := nb_e (F := F) h hb54 g1 hF sh1 (fun i u hu => by have := hl8 i u hu; omega) bm1 hu ht
        have hj : ∃ (j : Nat) (z : List Nat), W[j]? = some z ∧ cx_g n A z = cx_g n A (u ++ [t]) ∧ v2 = nI j := by
          rcases r1 with r1 | ⟨r1, -⟩
          · exact r1
          · exact absurd hgz' (r1 j' z' hz')
        obtain ⟨j, z, hz, hgz, rfl⟩ := hj
        have hjl := (List.getElem?_eq_some_iff.mp hz).1
        have hlz : cx_l n A u = cx_l n A z + 1 := by
          have := dn_1 hok uL ht hd
          rw [cx_l_eq hgz]
          omega
        obtain ⟨D', rfl⟩ : ∃ D', D = D' + 1 := ⟨D - 1, by omega⟩
        have st2 : filS n A W b Q (cx_l n A z) I2 J2 := by
          have q := st1 (cx_l n A z) (by omega)
          refine ⟨cl_fr g1 (r3 1 (by omega)) (r3 3 (by omega)), shf_at sh1 (r3 _ (by omega)) (r3 _ (by omega)) (r3 _ (by omega)) (r3 _ (by omega)) (r4 _ (by omega)), r2, ?_⟩
          unfold filI
          rw [r3 (b + 4) (by omega), r4 (b + 3) (by omega)]
          exact q.2.2.2
        obtain ⟨I3, J3, e7, a1, a2, a3⟩ := ih D' j z I2 J2 (by omega) hz (by omega) (by omega) st2
        have hxj : x ≠ j := fun hh => by
          rw [← hh, hu] at hz
          cases hz
          omega
        obtain ⟨I4, J4, e8, b1, b2, b3, b4, b5⟩ := ispr_e (F := F) (i := x) (j := j) (t := t) h hb54 a1.1 hF a1.2.1 hl8 a1.2.2.1 hxl hjl hxj ht
        obtain ⟨st4, G4⟩ := filS_w (I' := I4) (J' := J4) hQ hb54 hW a1 hu (by omega) b2 b1 b3 b4
        obtain ⟨T, I5, J5, e9, c1, c2, c3, c4, c5⟩ := fl_l (F := F) (D := D') (g := g) h hb54 hF hQ hW hl8 hu hz hlz ht (fun m v I J hv hvl hs => ih D' m v I J (by omega) hv (by omega) (by omega) hs) st4
        have SS : ∀ k, k < 256 → J4 (b + 3) (j * 256 + k) = J3 (b + 3) (j * 256 + k) := fun k hk => b4 _ (by omega)
        have qj4 : Q j (fun k => J4 (b + 3) (j * 256 + k)) := hQ.1 j _ _ (fun k hk => SS k (by omega)) (a1.2.2.2.2 j z hz (Nat.le_refl _) a3)
        have qx : Q x (fun k => J5 (b + 3) (x * 256 + k)) := by
          refine hQ.1 x _ _ c5 (hQ.2.2 x j t u z (fun k => J4 (b + 3) (j * 256 + k)) T hu hz ht hd hgz qj4 (fun k v hv => ?_) c4)
          rw [c3 k]
          have hkl := (List.getElem?_eq_some_iff.mp hv).1
          obtain ⟨r, q1, q2⟩ := b5 k v hv
          refine ⟨r, ?_, ?_⟩
          · rcases q1 with ⟨m, w, m1, m2, m3⟩ | q1
            · refine Or.inl ⟨m, w, m1, m2, ?_⟩
              have hml := (List.getElem?_eq_some_iff.mp m1).1
              show r = J4 (b + 3) (j * 256 + m)
              rw [SS m (by omega)]
              exact m3
            · exact Or.inr q1
          · show (¬ dn n A v t ∧ J4 (b + 3) (x * 256 + k) = J4 (b + 3) (j * 256 + k) + s12 r) ∨ (dn n A v t ∧ J4 (b + 3) (x * 256 + k) = r + s12 (J4 (b + 3) (j * 256 + k)))
            rw [SS k (by omega)]
            exact q2
        have G1 : filG n A W b (cx_l n A z) x I1 I2 J J2 := ⟨fun c k1 _ => r3 c k1, fun c k1 _ => r4 c k1, fun i v hv hvl => ⟨by rw [r3 (b + 4) (by omega)], fun _ k _ => by rw [r4 (b + 3) (by omega)]⟩, fun i hi hf => by rw [r3 (b + 4) (by omega)]; exact hf⟩
        have G := filG_tr G1 (filG_tr (filG_up (L' := cx_l n A z) (x' := x) a2 hz (Nat.le_refl _) (Nat.le_refl _)) (filG_tr G4 c2))
        have fx : I5 (b + 4) x = nI 1 := by rw [(G.2.2.1 x u hu (by omega)).1]; exact f1x
        refine ⟨I5, J5, ?_, ⟨c1.1, c1.2.1, c1.2.2.1, c1.2.2.2.1, fun i v hv hvl hf => ?_⟩, ⟨fun c k1 k2 => by rw [G.1 c k1 k2, hI1 c k2], G.2.1, fun i v hv hvl => ?_, fun i hil hf => ?_⟩, fx⟩
        · rw [pre, if_pos (show mc2 .ne (nI t) (-1) = true by rw [g_ne]; exact Ne.symm (gI_nI (k := 1) (by omega) (by omega) (by omega))), idr h, Option.bind_some, e6, Option.bind_some]
          unfold m10_61
          rw [if_pos (show mc2 .ne (nI j) (-1) = true by rw [g_ne]; exact Ne.symm (gI_nI (k := 1) (by omega) (by omega) (by omega))), nI_z1, e7, Option.bind_some, idr h, Option.bind_some, e8, Option.bind_some]
          exact e9
        · by_cases hlv : cx_l n A v ≤ cx_l n A z
          · exact c1.2.2.2.2 i v hv hlv hf
          · by_cases hi : i = x
            · rw [hi]
              exact qx
            · have gg := G.2.2.1 i v hv (by omega)
              rw [gg.1, f1n i hi] at hf
              exact hQ.1 i _ _ (fun k hk => gg.2 hi k (by omega)) (hst.2.2.2.2 i v hv hvl hf)
        · have hi : i ≠ x := fun hh => by
            rw [hh, hu] at hv
            cases hv
            omega
          have gg := G.2.2.1 i v hv (by omega)
          exact ⟨by rw [gg.1, f1n i hi], gg.2⟩
        · by_cases hi : i = x
          · rw [hi]
            exact fx
          · exact G.2.2.2 i hil (by rw [f1n i hi]; exact hf)
      · -- none
        obtain ⟨J2, e6, t1, t2, t3⟩ := fl_u (F := F) (sf := e10 F g) h hF sh1 hxl
        have qx : Q x (fun k => J2 (b + 3) (x * 256 + k)) := hQ.2.1 x u _ hu hno t3
        refine ⟨I1, J2, ?_, ⟨g1, shf_J sh1 (t1 _ (by omega)), bm1, fun i v hv => ?_, fun i v hv hvl hf => ?_⟩, ⟨fun c _ k2 => hI1 c k2, fun c _ k2 => t1 c k2, fun i v hv hvl => ?_, fun i hil hf => ?_⟩, f1x⟩
        · rw [pre, if_neg (show ¬ mc2 .ne (gI 1) (-1) = true by decide)]
          unfold m10_61
          rw [if_neg (show ¬ mc2 .ne (-1 : Int32) (-1) = true by decide)]
          exact e6
        · by_cases hi : i = x
          · exact Or.inr (by rw [hi]; exact f1x)
          · rw [f1n i hi]
            exact hst.2.2.2.1 i v hv
        · by_cases hi : i = x
          · rw [hi]
            exact qx
          · rw [f1n i hi] at hf
            exact hQ.1 i _ _ (fun k hk => t2 _ (by omega)) (hst.2.2.2.2 i v hv hvl hf)
        · have hi : i ≠ x := fun hh => by
            rw [hh, hu] at hv
            cases hv
            omega
          exact ⟨f1n i hi, fun _ k hk => t2 _ (by omega)⟩
        · by_cases hi : i = x
          · rw [hi]
            exact f1x
          · rw [f1n i hi]
            exact hf
    · refine ⟨I, J, ?_, hst, filG_rf _ _, f1⟩
      show m10_0 F (e10 F g) b (nI x) (nI D) _ = _
      unfold m10_0
      rw [id6 h, Option.bind_some, hrd, Option.bind_some, f1, if_pos (show mc1 .ne (nI 1) = true by decide)]
      rfl
end S
