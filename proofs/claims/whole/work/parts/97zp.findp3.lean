/-! The reference: findP from the call on. -/
section S
variable {l s d : Value} {tl : List hQ} {F : Nat} {I : hI} {J : hJ} {n : Nat} {A : Nat → Nat → Int} {y : List Nat} {W : List (List Nat)} {f : List Nat → Nat → Int}
/-- what findP leaves of all but its own cells -/
def xfr (I I' : hI) (J J' : hJ) : Prop := (∀ c, c < 45 → c ≠ 26 → I' c = I c) ∧ (∀ g, g ≠ 30 → g ≠ 31 → I' 26 g = I 26 g) ∧ (∀ c, c < 45 → c ≠ 32 → J' c = J c) ∧ ∀ c, 54 ≤ c → I' c = I c ∧ J' c = J c
theorem xfr_rf (I : hI) (J : hJ) : xfr I I J J := ⟨fun _ _ _ => rfl, fun _ _ _ => rfl, fun _ _ _ => rfl, fun _ _ => ⟨rfl, rfl⟩⟩
theorem xfr_tr {I I' I'' : hI} {J J' J'' : hJ} (h : xfr I I' J J') (h' : xfr I' I'' J' J'') : xfr I I'' J J'' := ⟨fun c a b => (h'.1 c a b).trans (h.1 c a b), fun g a b => (h'.2.1 g a b).trans (h.2.1 g a b), fun c a b => (h'.2.2.1 c a b).trans (h.2.2.1 c a b), fun c hc => ⟨(h'.2.2.2 c hc).1.trans (h.2.2.2 c hc).1, (h'.2.2.2 c hc).2.trans (h.2.2.2 c hc).2⟩⟩
theorem xfr_b {I I' : hI} {J J' : hJ} (h : bfr I I' J J') : xfr I I' J J' := ⟨fun c a b => h.1 c b (by omega) (by omega) (by omega), fun g _ b => h.2.1 g b, fun c a b => h.2.2 c b (by omega), fun c hc => ⟨h.1 c (by omega) (by omega) (by omega) (by omega), h.2.2 c (by omega) (by omega)⟩⟩
theorem xfr_p {I I' : hI} (h : pfr I I') : xfr I I' J J := ⟨fun c a b => h c (by omega) (by omega) (by omega) (by omega) (by omega), fun g _ _ => by rw [h 26 (by decide) (by decide) (by decide) (by decide) (by decide)], fun _ _ _ => rfl, fun c hc => ⟨h c (by omega) (by omega) (by omega) (by omega) (by omega), rfl⟩⟩
/-- all lengths, from the longest on -/
theorem fp_3 (hM : mo_n n A I) {els : List (List Nat)} (hk : km n A els I) (hF : 9000 ≤ F) {w : Nat} (hy : els[w]? = some y) (yL : cx_L n y) (yl : cx_l n A y = y.length) (h8 : y.length ≤ 8) (hB : blF n A y W I J) (hf : klo n A y f) : ∀ (g c : Nat) (K : hI), c < g → (c ≤ y.length + 1 ∧ fpS n A W f (fun j => c ≤ cx_l n A (W.getD j [])) K ∧ pfr I K) → ∃ K' : hI, m203_50 F g 26 (nI w) (nI c - 1) (mkH (hs l s d tl) K J) = some ((), (mkH (hs l s d tl) (upI K' 26 30 (nI w)) J)) ∧ fpS n A W f (fun _ => True) K' ∧ pfr I K' := by
  refine lpd (σ := hI) (R := Option (Unit × List mE)) (fun g c K => m203_50 F g 26 (nI w) (nI c - 1) (mkH (hs l s d tl) K J)) (fun c K => c ≤ y.length + 1 ∧ fpS n A W f (fun j => c ≤ cx_l n A (W.getD j [])) K ∧ pfr I K) (fun r => ∃ K' : hI, r = some ((), (mkH (hs l s d tl) (upI K' 26 30 (nI w)) J)) ∧ fpS n A W f (fun _ => True) K' ∧ pfr I K') ?_ ?_
  · rintro g K ⟨_, p1, p2⟩
    refine ⟨K, ?_, fpS_cg (fun j _ => ⟨fun _ => trivial, fun _ => Nat.zero_le _⟩) p1, p2⟩
    show m203_50 F (g + 1) 26 (nI w) (nI 0 - 1) (mkH (hs l s d tl) K J) = _
    rw [m203_50, if_pos (show mc1 .lt (nI 0 - 1) = true by decide), pi26_30, Option.bind_some]
  · rintro g c K ⟨p0, p1, p2⟩
    right
    obtain ⟨K1, e1, r1, r2⟩ := fp_2 (l := l) (s := s) (d := d) (tl := tl) (F := F) (z := c) (rc50 := m203_50 F g) hM hk hF hy yL yl h8 hB hf (by omega) F 0 K (by omega) (by have := hB.2.1; omega) ⟨fpS_cg (fun j _ => by
      show (c + 1 ≤ cx_l n A (W.getD j [])) ↔ (c < cx_l n A (W.getD j []) ∨ cx_l n A (W.getD j []) = c ∧ j < 0)
      omega) p1, p2⟩
    refine ⟨K1, ?_, by omega, fpS_cg (fun j hj => by
      show (c < cx_l n A (W.getD j []) ∨ cx_l n A (W.getD j []) = c ∧ j < W.length) ↔ (c ≤ cx_l n A (W.getD j []))
      omega) r1, r2⟩
    show m203_50 F (g + 1) 26 (nI w) (nI (c + 1) - 1) (mkH (hs l s d tl) K J) = _
    rw [nI_z1, m203_50, if_neg (show ¬ mc1 .lt (nI c) = true by rw [d_lt (by omega)]; exact id)]
    refine Eq.trans e1 ?_
    rw [show nI c + (-1) = nI c - 1 from by rw [Int32.sub_eq_add_neg]]
/-- findP -/
theorem fp_e (hM : mo_n n A I) {els : List (List Nat)} (hk : km n A els I) (hF : 9000 ≤ F) {w : Nat} (hy : els[w]? = some y) (h8 : y.length ≤ 8) (hx : exP n A els I J) : ∃ (I' : hI) (J' : hJ) (W : List (List Nat)) (f : List Nat → Nat → Int), e203 F 26 (nI w) (mkH (hs l s d tl) I J) = some ((), (mkH (hs l s d tl) I' J')) ∧ exQ n A y W f I' J' ∧ I' 26 30 = nI w ∧ xfr I I' J J' := by
  have hok := hM.1
  obtain ⟨yc, yL, yl, y20, w40, yb, _⟩ := km_c hk hy
  have h40 := hk.2.1
  have hwl := (List.getElem?_eq_some_iff.mp hy).1
  by_cases heq : I 26 30 = nI w
  · rcases hx with hx | ⟨w', y', W, f, a1, a2, a3, a4⟩
    · rw [hx] at heq
      exact absurd heq (gI_nI (by omega) (by omega) (by omega))
    · have hw' := (List.getElem?_eq_some_iff.mp a1).1
      rw [a3] at heq
      have := (nI_eq (by omega) (by omega)).mp heq
      subst this
      rw [hy] at a1
      cases a1
      refine ⟨I, J, W, f, ?_, a4, a3, xfr_rf I J⟩
      show m203_0 F 26 _ _ = _
      unfold m203_0
      rw [gi26_30, Option.bind_some, a3, if_neg (show ¬ mc2 .ne (nI w') (nI w') = true by rw [c_ne (by omega) (by omega)]; omega)]
  · obtain ⟨W, I1, J1, e1, B1, f1⟩ := fb_e (l := l) (s := s) (d := d) (tl := tl) (F := F) (J := J) hM hk hF hy h8
    obtain ⟨f, hf⟩ := klo_ex hok (cx_l n A y) y yL (Nat.le_refl _)
    have hM1 := mo_bf hM f1
    have hk1 : km n A els I1 := km_fr hk (f1.2.1 16 (by decide)) (f1.1 34 (by decide) (by decide) (by decide) (by decide)) (f1.1 35 (by decide) (by decide) (by decide) (by decide))
    have zr : ∀ (g q : Nat) (K : hI), q ≤ 2304 → 2304 < q + g → ((∀ q', q' < q → K 52 q' = 0 ∧ K 53 q' = 0) ∧ ∀ c, c ≠ 52 → c ≠ 53 → K c = I1 c) → ∃ K' : hI, m203_16 F g 26 (nI w) (nI q) (mkH (hs l s d tl) K J1) = some ((), (mkH (hs l s d tl) (upI K' 26 30 (nI w)) J1)) ∧ fpS n A W f (fun _ => True) K' ∧ pfr I1 K' := by
      refine lpc (σ := hI) (R := Option (Unit × List mE)) (fun g q K => m203_16 F g 26 (nI w) (nI q) (mkH (hs l s d tl) K J1)) 2304 (fun q K => (∀ q', q' < q → K 52 q' = 0 ∧ K 53 q' = 0) ∧ ∀ c, c ≠ 52 → c ≠ 53 → K c = I1 c) (fun r => ∃ K' : hI, r = some ((), (mkH (hs l s d tl) (upI K' 26 30 (nI w)) J1)) ∧ fpS n A W f (fun _ => True) K' ∧ pfr I1 K') ?_ ?_
      · rintro g K ⟨p1, p2⟩
        have pf : pfr I1 K := fun c _ _ _ a4 a5 => p2 c a4 a5
        have l34 : K 34 w = nI y.length := by rw [p2 34 (by decide) (by decide), f1.1 34 (by decide) (by decide) (by decide) (by decide)]; exact yb
        have hl : ∀ j, j < W.length → ¬ y.length + 1 ≤ cx_l n A (W.getD j []) := fun j hj => by
          have hA := bqS_A B1.1
          have := bqS_l (hA.2.2.1 j _ (gd_ex hj)).1 (hA.2.2.1 j _ (gd_ex hj)).2 yL
          omega
        obtain ⟨K', e2, r⟩ := fp_3 (l := l) (s := s) (d := d) (tl := tl) (F := F) hM1 hk1 hF hy yL yl h8 B1 hf F (y.length + 1) K (by omega) ⟨Nat.le_refl _, fun i u hu k hk => by
          have hi := (List.getElem?_eq_some_iff.mp hu).1
          have h256 := B1.2.1
          obtain ⟨z1, z2⟩ := p1 (9 * i + k) (by omega)
          refine ⟨?_, ?_⟩
          · rw [z1, cii_n (hl i hi)]
            rfl
          · rw [z2]
            unfold acs
            rw [cx_sum_eq (g := fun _ => 0) (fun j hj => cii_n (fun hh => hl j hj hh.1)), cx_sum_z]
            rfl, pf⟩
        refine ⟨K', ?_, r⟩
        show m203_16 F (g + 1) 26 (nI w) (nI 2304) (mkH (hs l s d tl) K J1) = _
        rw [m203_16, if_pos (show mc2 .ge (nI 2304) 2304 = true by decide), gr26_17, Option.bind_some, rI34 (by omega), Option.bind_some, l34, ← nI_z1 y.length]
        exact e2
      · rintro g q K hq ⟨p1, p2⟩
        right
        refine ⟨upI (upI K 52 q 0) 53 q 0, ?_, fun q' hq' => ?_, fun c a1 a2 => by rw [upI_ne a2, upI_ne a1]; exact p2 c a1 a2⟩
        · show m203_16 F (g + 1) 26 (nI w) (nI q) (mkH (hs l s d tl) K J1) = _
          rw [m203_16, if_neg (show ¬ mc2 .ge (nI q) 2304 = true by rw [n_2304, c_ge (by omega) (by omega)]; omega), gr26_39, Option.bind_some, wI52 (by omega), Option.bind_some, gr26_40, Option.bind_some, wI53 (by omega), Option.bind_some, n_1, nI_add]
        · rw [upI_ne (by decide), upI_at, upI_at]
          by_cases hqq : q' = q
          · rw [if_pos hqq, if_pos hqq]
            exact ⟨rfl, rfl⟩
          · rw [if_neg hqq, if_neg hqq, upI_ne (by decide)]
            exact p1 q' (by omega)
    obtain ⟨K, e2, r1, r2⟩ := zr F 0 I1 (by omega) (by omega) ⟨fun q hq => by omega, fun _ _ _ => rfl⟩
    have u26 : ∀ g, g ≠ 30 → upI K 26 30 (nI w) 26 g = K 26 g := fun g hg => by rw [upI_at, if_neg hg]
    have BK := blF_fr B1 r2
    refine ⟨upI K 26 30 (nI w), J1, W, f, ?_, ⟨?_, hf, fun i u hu k hk => ?_⟩, by rw [upI_at, if_pos rfl], ?_⟩
    · show m203_0 F 26 _ _ = _
      unfold m203_0
      rw [gi26_30, Option.bind_some, if_pos (show mc2 .ne (I 26 30) (nI w) = true by rw [g_ne]; exact heq), rc26, Option.bind_some, e1, Option.bind_some]
      exact e2
    · obtain ⟨b1, b2, b3, b4⟩ := BK
      refine ⟨b1, b2, ⟨b3.1, fun i u hu => by rw [upI_ne (by decide)]; exact b3.2.1 i u hu, by rw [u26 31 (by decide)]; exact b3.2.2⟩, fun i j u a1 a2 a3 => ?_⟩
      rw [upI_ne (by decide), upI_ne (by decide)]
      exact b4 i j u a1 a2 a3
    · rw [upI_ne (by decide), (r1 i u hu k hk).1, cii_p trivial]
    · refine xfr_tr (xfr_b f1) (xfr_tr (xfr_p r2) ⟨fun c _ b => upI_ne b, fun g a _ => u26 g a, fun _ _ _ => rfl, fun c hc => ⟨upI_ne (by omega), rfl⟩⟩)
end S
