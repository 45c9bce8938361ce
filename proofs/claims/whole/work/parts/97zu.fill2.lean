/-! The class: Ideal, fill. -/
section S
variable {l s d : Value} {tl : List hQ} {F : Nat} {I : hI} {J : hJ} {n b : Nat} {A : Nat → Nat → Int} {W : List (List Nat)} {y : List Nat} {Q : Nat → (Nat → Int64) → Prop}
theorem lea_lt {a c : Nat} {v : Int64} (h : ¬ mc1 .eq (leaV a c v) = true) : c < a := by
  unfold leaV at h
  by_cases hc : a < c ∨ (a - c) % 2 = 0
  · rw [if_pos hc] at h
    exact absurd (by decide) h
  · omega
/-- the loop of lessening -/
theorem fl_l (h : idS (hs l s d tl) b) (hb54 : 54 ≤ b) (hF : 9000 ≤ F) (hQ : filQ n A W Q) (hW : W.length ≤ 256) (hl8 : ∀ (i : Nat) (u : List Nat), W[i]? = some u → cx_l n A u ≤ 8) {x j t D g : Nat} {u z : List Nat} (hu : W[x]? = some u) (hz : W[j]? = some z) (hlz : cx_l n A u = cx_l n A z + 1) (ht : t < n) (ih : ∀ (m : Nat) (v : List Nat) (I : hI) (J : hJ), W[m]? = some v → cx_l n A v ≤ cx_l n A z → filS n A W b Q (cx_l n A v) I J → ∃ (I' : hI) (J' : hJ), e10 F g b (nI m) (nI D) (mkH (hs l s d tl) I J) = some ((), (mkH (hs l s d tl) I' J')) ∧ filS n A W b Q (cx_l n A v) I' J' ∧ filG n A W b (cx_l n A v) m I I' J J' ∧ I' (b + 4) m = nI 1) (hst : filS n A W b Q (cx_l n A z) I J) : ∃ (T : Nat → Nat → Int64) (I' : hI) (J' : hJ), m10_135 F (e10 F g) F b (nI x) (nI (D + 1)) (nI t) (nI j) (nI 0) (mkH (hs l s d tl) I J) = some ((), (mkH (hs l s d tl) I' J')) ∧ filS n A W b Q (cx_l n A z) I' J' ∧ filG n A W b (cx_l n A z) x I I' J J' ∧ (∀ k, T 0 k = J (b + 3) (x * 256 + k)) ∧ (∀ (m : Nat) (v : List Nat), W[m]? = some v → lesT n A W Q t (cx_l n A u) (cx_l n A z) (fun k => J (b + 3) (j * 256 + k)) m v (T m) (T (m + 1))) ∧ ∀ k, k < W.length → J' (b + 3) (x * 256 + k) = T W.length k := by
  have hS := h.2.2.2.2.2
  have hok := hst.1.1
  have hn5 := hst.1.2.2.1
  have hxl := (List.getElem?_eq_some_iff.mp hu).1
  have hjl := (List.getElem?_eq_some_iff.mp hz).1
  have hxj : j ≠ x := fun hh => by
    rw [hh, hu] at hz
    cases hz
    omega
  refine lpc (σ := (Nat → Nat → Int64) × hI × hJ) (R := Option (Unit × List mE)) (fun f m M => m10_135 F (e10 F g) f b (nI x) (nI (D + 1)) (nI t) (nI j) (nI m) (mkH (hs l s d tl) M.2.1 M.2.2)) W.length (fun m M => filS n A W b Q (cx_l n A z) M.2.1 M.2.2 ∧ filG n A W b (cx_l n A z) x I M.2.1 J M.2.2 ∧ (∀ k, k < 256 → M.2.2 (b + 3) (j * 256 + k) = J (b + 3) (j * 256 + k)) ∧ (∀ k, M.1 0 k = J (b + 3) (x * 256 + k)) ∧ (∀ (m' : Nat) (v : List Nat), m' < m → W[m']? = some v → lesT n A W Q t (cx_l n A u) (cx_l n A z) (fun k => J (b + 3) (j * 256 + k)) m' v (M.1 m') (M.1 (m' + 1))) ∧ ∀ k, k < W.length → M.2.2 (b + 3) (x * 256 + k) = M.1 m k) (fun r => ∃ (T : Nat → Nat → Int64) (I' : hI) (J' : hJ), r = some ((), (mkH (hs l s d tl) I' J')) ∧ filS n A W b Q (cx_l n A z) I' J' ∧ filG n A W b (cx_l n A z) x I I' J J' ∧ (∀ k, T 0 k = J (b + 3) (x * 256 + k)) ∧ (∀ (m : Nat) (v : List Nat), W[m]? = some v → lesT n A W Q t (cx_l n A u) (cx_l n A z) (fun k => J (b + 3) (j * 256 + k)) m v (T m) (T (m + 1))) ∧ ∀ k, k < W.length → J' (b + 3) (x * 256 + k) = T W.length k) ?_ ?_ F 0 (fun _ k => J (b + 3) (x * 256 + k), I, J) (by omega) (by omega) ⟨hst, filG_rf _ _, fun _ _ => rfl, fun _ => rfl, fun m' _ hm' _ => by omega, fun _ _ => rfl⟩
  · rintro f ⟨T, K, M⟩ ⟨p1, p2, p3, p4, p5, p6⟩
    have p1 : filS n A W b Q (cx_l n A z) K M := p1
    refine ⟨T, K, M, ?_, p1, p2, p4, fun m v hv => p5 m v (List.getElem?_eq_some_iff.mp hv).1 hv, p6⟩
    show m10_135 F (e10 F g) (f + 1) b (nI x) (nI (D + 1)) (nI t) (nI j) (nI W.length) (mkH (hs l s d tl) K M) = _
    rw [m10_135, id2 h, Option.bind_some, s2 hS, Option.bind_some, p1.2.1.2.1.2.1, if_pos (show mc2 .ge (nI W.length) (nI W.length) = true by rw [c_ge (by omega) (by omega)]; omega)]
  · rintro f m ⟨T, K, M⟩ hm ⟨p1, p2, p3, p4, p5, p6⟩
    right
    have p1 : filS n A W b Q (cx_l n A z) K M := p1
    have p2 : filG n A W b (cx_l n A z) x I K J M := p2
    have p3 : ∀ k, k < 256 → M (b + 3) (j * 256 + k) = J (b + 3) (j * 256 + k) := p3
    have p4 : ∀ k, T 0 k = J (b + 3) (x * 256 + k) := p4
    have p5 : ∀ (m' : Nat) (v : List Nat), m' < m → W[m']? = some v → lesT n A W Q t (cx_l n A u) (cx_l n A z) (fun k => J (b + 3) (j * 256 + k)) m' v (T m') (T (m' + 1)) := p5
    have p6 : ∀ k, k < W.length → M (b + 3) (x * 256 + k) = T m k := p6
    have hv := gd_ex hm
    generalize W.getD m [] = v at hv
    have pre : m10_135 F (e10 F g) (f + 1) b (nI x) (nI (D + 1)) (nI t) (nI j) (nI m) (mkH (hs l s d tl) K M) = (e61 F (b + 5) (nI m) (nI t) (mkH (hs l s d tl) K M)).bind fun q5 => if mc1 .eq q5.1 = true then m10_172 F (e10 F g) (m10_135 F (e10 F g) f) b (nI x) (nI (D + 1)) (nI t) (nI j) (nI m) 0 q5.2 else (rcv 0 q5.2 b).bind fun u9 => (e12 F b (nI m) (nI j) q5.2).bind fun q8 => m10_172 F (e10 F g) (m10_135 F (e10 F g) f) b (nI x) (nI (D + 1)) (nI t) (nI j) (nI m) q8.1 q8.2 := by
      rw [m10_135, id2 h, Option.bind_some, s2 hS, Option.bind_some, p1.2.1.2.1.2.1, if_neg (show ¬ mc2 .ge (nI m) (nI W.length) = true by rw [c_ge (by omega) (by omega)]; omega), Option.bind_some, sr hS, Option.bind_some]
    -- nothing is lessened
    have skip : (dn n A v t → mc1 .eq (leaV (cx_l n A z) (cx_l n A v) (J (b + 3) (j * 256 + m))) = true) → m10_135 F (e10 F g) (f + 1) b (nI x) (nI (D + 1)) (nI t) (nI j) (nI m) (mkH (hs l s d tl) K M) = m10_135 F (e10 F g) f b (nI x) (nI (D + 1)) (nI t) (nI j) (nI (m + 1)) (mkH (hs l s d tl) K M) → ∃ M' : (Nat → Nat → Int64) × hI × hJ, m10_135 F (e10 F g) (f + 1) b (nI x) (nI (D + 1)) (nI t) (nI j) (nI m) (mkH (hs l s d tl) K M) = m10_135 F (e10 F g) f b (nI x) (nI (D + 1)) (nI t) (nI j) (nI (m + 1)) (mkH (hs l s d tl) M'.2.1 M'.2.2) ∧ filS n A W b Q (cx_l n A z) M'.2.1 M'.2.2 ∧ filG n A W b (cx_l n A z) x I M'.2.1 J M'.2.2 ∧ (∀ k, k < 256 → M'.2.2 (b + 3) (j * 256 + k) = J (b + 3) (j * 256 + k)) ∧ (∀ k, M'.1 0 k = J (b + 3) (x * 256 + k)) ∧ (∀ (m' : Nat) (v : List Nat), m' < m + 1 → W[m']? = some v → lesT n A W Q t (cx_l n A u) (cx_l n A z) (fun k => J (b + 3) (j * 256 + k)) m' v (M'.1 m') (M'.1 (m' + 1))) ∧ ∀ k, k < W.length → M'.2.2 (b + 3) (x * 256 + k) = M'.1 (m + 1) k := by
      intro hs he
      refine ⟨(fun q => if q ≤ m then T q else T m, K, M), he, p1, p2, p3, fun k => ?_, fun m' v' hm' hv' => ?_, fun k hk => ?_⟩
      · show (if 0 ≤ m then T 0 else T m) k = _
        rw [if_pos (by omega)]
        exact p4 k
      · show lesT n A W Q t _ _ _ m' v' (if m' ≤ m then T m' else T m) (if m' + 1 ≤ m then T (m' + 1) else T m)
        rw [if_pos (by omega)]
        by_cases hmm : m' = m
        · subst hmm
          rw [if_neg (by omega)]
          rw [hv] at hv'
          cases hv'
          exact Or.inl ⟨hs, fun _ _ => rfl⟩
        · rw [if_pos (by omega)]
          exact p5 m' v' (by omega) hv'
      · show M (b + 3) (x * 256 + k) = (if m + 1 ≤ m then T (m + 1) else T m) k
        rw [if_neg (by omega)]
        exact p6 k hk
    rcases ib_e (F := F) hS hok hn5 p1.2.1.2.1 hv ht with ⟨e3, hd⟩ | ⟨e3, hd⟩
    · have e12 := ilea_e (F := F) h p1.2.1 hl8 hv hz
      rw [p3 m (by omega)] at e12
      have pre2 : m10_135 F (e10 F g) (f + 1) b (nI x) (nI (D + 1)) (nI t) (nI j) (nI m) (mkH (hs l s d tl) K M) = m10_172 F (e10 F g) (m10_135 F (e10 F g) f) b (nI x) (nI (D + 1)) (nI t) (nI j) (nI m) (leaV (cx_l n A z) (cx_l n A v) (J (b + 3) (j * 256 + m))) (mkH (hs l s d tl) K M) := by
        rw [pre, e3, Option.bind_some, if_neg (show ¬ mc1 .eq (nI 1) = true by decide), idr h, Option.bind_some, e12, Option.bind_some]
      by_cases h0 : mc1 .eq (leaV (cx_l n A z) (cx_l n A v) (J (b + 3) (j * 256 + m))) = true
      · refine skip (fun _ => h0) ?_
        rw [pre2]
        unfold m10_172
        rw [if_pos h0]
        unfold m10_197
        rw [n_1, nI_add]
      · have hlt := lea_lt h0
        have hmx : x ≠ m := fun hh => by
          rw [← hh, hu] at hv
          cases hv
          omega
        obtain ⟨I2, J2, e4, r1, r2, r3⟩ := ih m v K M hv (by omega) (filS_dn p1 (by omega))
        have s2' := filS_up hQ hW p1 hv (Nat.le_refl _) r1 r2
        have G2 : filG n A W b (cx_l n A z) x K I2 M J2 := filG_up r2 hv (Nat.le_refl _) (by omega)
        obtain ⟨J3, e5, t1, t2, t3⟩ := iles_e (F := F) (m := leaV (cx_l n A z) (cx_l n A v) (J (b + 3) (j * 256 + m))) h hF r1.2.1 hl8 hu hv hmx (by omega)
        obtain ⟨s3', G3⟩ := filS_w (I' := I2) (J' := J3) hQ hb54 hW s2' hu (by omega) (fun _ _ => rfl) r1.2.2.1 (fun c _ hc => t1 c hc) t2
        have jz : ∀ k, k < 256 → J2 (b + 3) (j * 256 + k) = M (b + 3) (j * 256 + k) := fun k hk => (r2.2.2.1 j z hz hlt).2 (fun hh => by
          rw [hh, hv] at hz
          cases hz
          omega) k hk
        have jx : ∀ k, k < 256 → J2 (b + 3) (x * 256 + k) = M (b + 3) (x * 256 + k) := fun k hk => (r2.2.2.1 x u hu (by omega)).2 hmx k hk
        refine ⟨(fun q => if q ≤ m then T q else fun k => J3 (b + 3) (x * 256 + k), I2, J3), ?_, s3', filG_tr p2 (filG_tr G2 G3), fun k hk => ?_, fun k => ?_, fun m' v' hm' hv' => ?_, fun k hk => ?_⟩
        · show m10_135 F (e10 F g) (f + 1) b (nI x) (nI (D + 1)) (nI t) (nI j) (nI m) (mkH (hs l s d tl) K M) = m10_135 F (e10 F g) f b (nI x) (nI (D + 1)) (nI t) (nI j) (nI (m + 1)) (mkH (hs l s d tl) I2 J3)
          rw [pre2]
          unfold m10_172
          rw [if_neg h0, nI_z1, e4, Option.bind_some, idr h, Option.bind_some, e5, Option.bind_some]
          unfold m10_197
          rw [n_1, nI_add]
        · show J3 (b + 3) (j * 256 + k) = _
          rw [t2 _ (by omega), jz k hk]
          exact p3 k hk
        · show (if 0 ≤ m then T 0 else fun k => J3 (b + 3) (x * 256 + k)) k = _
          rw [if_pos (by omega)]
          exact p4 k
        · show lesT n A W Q t _ _ _ m' v' (if m' ≤ m then T m' else fun k => J3 (b + 3) (x * 256 + k)) (if m' + 1 ≤ m then T (m' + 1) else fun k => J3 (b + 3) (x * 256 + k))
          rw [if_pos (by omega)]
          by_cases hmm : m' = m
          · subst hmm
            rw [if_neg (by omega)]
            rw [hv] at hv'
            cases hv'
            refine Or.inr ⟨hd, h0, fun k => J2 (b + 3) (m' * 256 + k), r1.2.2.2.2 m' v hv (Nat.le_refl _) r3, fun k hk => ?_⟩
            show J3 (b + 3) (x * 256 + k) = _
            rw [t3 k hk, jx k (by omega), p6 k hk]
          · rw [if_pos (by omega)]
            exact p5 m' v' (by omega) hv'
        · show J3 (b + 3) (x * 256 + k) = (if m + 1 ≤ m then T (m + 1) else fun k => J3 (b + 3) (x * 256 + k)) k
          rw [if_neg (by omega)]
    · refine skip (fun hh => absurd hh hd) ?_
      rw [pre, e3, Option.bind_some, if_pos (show mc1 .eq (nI 0) = true by decide)]
      unfold m10_172
      rw [if_pos (show mc1 .eq (0 : Int32) = true by decide)]
      unfold m10_197
      rw [n_1, nI_add]
end S
