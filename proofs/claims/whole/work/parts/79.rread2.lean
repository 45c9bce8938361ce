/-! The reference: read, feed. -/
section S
variable {l s d : Value} {tl : List hQ} {F : Nat} {I : hI} {J : hJ} {N p m : Nat} {tx : Nat → Nat} {T : tT}
def rtb (N : Nat) (tx : Nat → Nat) (I : hI) : Prop := N ≤ 120 ∧ I 26 5 = nI N ∧ ∀ i, i < N → I 30 i = nI (tx i) ∧ tx i < 256
/-- read -/
theorem rrd_e (h : rtb N tx I) (hF : 300 ≤ F) : ∃ v I' J', e148 F 26 (mkH (hs l s d tl) I J) = some (v, (mkH (hs l s d tl) I' J')) ∧ I' 26 5 = nI 0 ∧ (∀ c, c ≠ 26 → J' c = J c) ∧ ((∃ m T, prs N tx 121 true 3 tT0 0 = .inr (m, T) ∧ tok T ∧ v = nI m ∧ 1 ≤ m ∧ m ≤ 5 ∧ mo_n m (gA T) I' ∧ mo_t m T I' ∧ km m (gA T) [[]] I' ∧ dr m [] I' ∧ I' 26 30 = gI 1 ∧ I' 26 6 = gI 1 ∧ (∀ c, c ≠ 26 → c ≠ 27 → c ≠ 28 → c ≠ 29 → c ≠ 31 → c ≠ 34 → I' c = I c)) ∨ (∃ c q, prs N tx 121 true 3 tT0 0 = .inl (c, q) ∧ v = (-10) - nI c ∧ I' 26 6 = nI q ∧ (∀ c, c ≠ 26 → c ≠ 29 → c ≠ 31 → I' c = I c) ∧ ∀ f, f ≠ 5 → f ≠ 6 → f ≠ 7 → f ≠ 9 → f ≠ 10 → f ≠ 12 → I' 26 f = I 26 f)) := by
  have hN := h.1
  have e0 : e148 F 26 (mkH (hs l s d tl) I J) = m148_0 F 26 (mkH (hs l s d tl) I J) := rfl
  rw [e0]
  unfold m148_0
  rw [pi26_6, Option.bind_some, pi26_7, Option.bind_some, pi26_12, Option.bind_some]
  -- the end
  have done : ∀ {I2 : hI} {J2 : hJ} {m : Nat} {T : tT} {p : Nat}, tok T → rq N tx p m T I2 → rg I I2 → (∀ c, c ≠ 26 → J2 c = J c) → prs N tx 121 true 3 tT0 0 = .inr (m, T) → ∃ v I' J', m148_69 F 26 (nI 0) (mkH (hs l s d tl) I2 J2) = some (v, (mkH (hs l s d tl) I' J')) ∧ I' 26 5 = nI 0 ∧ (∀ c, c ≠ 26 → J' c = J c) ∧ ((∃ m T, prs N tx 121 true 3 tT0 0 = .inr (m, T) ∧ tok T ∧ v = nI m ∧ 1 ≤ m ∧ m ≤ 5 ∧ mo_n m (gA T) I' ∧ mo_t m T I' ∧ km m (gA T) [[]] I' ∧ dr m [] I' ∧ I' 26 30 = gI 1 ∧ I' 26 6 = gI 1 ∧ (∀ c, c ≠ 26 → c ≠ 27 → c ≠ 28 → c ≠ 29 → c ≠ 31 → c ≠ 34 → I' c = I c)) ∨ (∃ c q, prs N tx 121 true 3 tT0 0 = .inl (c, q) ∧ v = (-10) - nI c ∧ I' 26 6 = nI q ∧ (∀ c, c ≠ 26 → c ≠ 29 → c ≠ 31 → I' c = I c) ∧ ∀ f, f ≠ 5 → f ≠ 6 → f ≠ 7 → f ≠ 9 → f ≠ 10 → f ≠ 12 → I' 26 f = I 26 f)) := by
    intro I2 J2 m T p hT k1 k2 k3 k4
    obtain ⟨j1, j2, j3, j4, j5, j6, j7, j8⟩ := k1
    obtain ⟨I3, e3, g1, g2, g3, g4, g5, g6, g7⟩ := tak_e (l := l) (s := s) (d := d) (tl := tl) (F := F) (I := upI I2 26 5 (nI 0)) (J := J2) hT j5 j6 hF (fun i j hi hj => by rw [upI_ne (by decide)]; exact (j8 i j hi hj).2)
    have h12 : upI I2 26 5 (nI 0) 26 12 = nI m := by rw [upI_at, if_neg (by decide), j7]
    unfold m148_69
    rw [n_0, pi26_5, Option.bind_some, if_pos (show mc1 .le (nI 0) = true by decide), gi26_12, Option.bind_some, rc26, Option.bind_some, h12, e3, Option.bind_some, gi26_0, Option.bind_some, g1.2.2.2.1]
    refine ⟨_, I3, J2, rfl, ?_, k3, Or.inl ⟨m, T, k4, hT, rfl, j5, j6, g1, g2, g3, g4, g5, ?_, fun c c1 c2 c3 c4 c5 c6 => ?_⟩⟩
    · rw [g7 5 (by decide) (by decide) (by decide) (by decide), upI_at, if_pos rfl]
    · rw [g7 6 (by decide) (by decide) (by decide) (by decide), upI_at, if_neg (by decide), j4]
    · rw [g6 c c1 c2 c3 c6, upI_ne c1]
      exact k2.1 c c1 c4 c5
  refine lpc (fun f k (I1 : hI) => m148_17 F f 26 (nI k) (mkH (hs l s d tl) I1 J)) 25 (fun k I1 => I1 26 = upI (upI (upI I 26 6 (-1)) 26 7 0) 26 12 3 26 ∧ (∀ i, i < k → I1 29 i = nI 2 ∧ I1 31 i = nI 0) ∧ ∀ c, c ≠ 26 → c ≠ 29 → c ≠ 31 → I1 c = I c) (fun r => ∃ v I' J', r = some (v, (mkH (hs l s d tl) I' J')) ∧ I' 26 5 = nI 0 ∧ (∀ c, c ≠ 26 → J' c = J c) ∧ ((∃ m T, prs N tx 121 true 3 tT0 0 = .inr (m, T) ∧ tok T ∧ v = nI m ∧ 1 ≤ m ∧ m ≤ 5 ∧ mo_n m (gA T) I' ∧ mo_t m T I' ∧ km m (gA T) [[]] I' ∧ dr m [] I' ∧ I' 26 30 = gI 1 ∧ I' 26 6 = gI 1 ∧ (∀ c, c ≠ 26 → c ≠ 27 → c ≠ 28 → c ≠ 29 → c ≠ 31 → c ≠ 34 → I' c = I c)) ∨ (∃ c q, prs N tx 121 true 3 tT0 0 = .inl (c, q) ∧ v = (-10) - nI c ∧ I' 26 6 = nI q ∧ (∀ c, c ≠ 26 → c ≠ 29 → c ≠ 31 → I' c = I c) ∧ ∀ f, f ≠ 5 → f ≠ 6 → f ≠ 7 → f ≠ 9 → f ≠ 10 → f ≠ 12 → I' 26 f = I 26 f))) ?_ ?_ F 0 (upI (upI (upI I 26 6 (-1)) 26 7 0) 26 12 3) (by omega) (by omega) ⟨rfl, fun i hi => by omega, fun c c1 _ _ => by rw [upI_ne c1, upI_ne c1, upI_ne c1]⟩
  · rintro f I1 ⟨k1, k2, k3⟩
    have f26 : ∀ f, I1 26 f = if f = 12 then 3 else if f = 7 then 0 else if f = 6 then -1 else I 26 f := by
      intro f
      rw [k1, upI_at, upI_at, upI_at]
    have hq0 : rq N tx 0 3 tT0 I1 := by
      refine ⟨⟨hN, ?_, fun i hi => ?_⟩, Nat.zero_le _, ?_, ?_, by omega, by omega, ?_, fun i j hi hj => ?_⟩
      · rw [f26, if_neg (by decide), if_neg (by decide), if_neg (by decide)]
        exact h.2.1
      · rw [k3 30 (by decide) (by decide) (by decide)]
        exact h.2.2 i hi
      · rw [f26, if_neg (by decide), if_pos rfl]
        rfl
      · rw [f26, if_neg (by decide), if_neg (by decide), if_pos rfl]
        rfl
      · rw [f26, if_pos rfl]
        rfl
      · have := k2 (5 * i + j) (by omega)
        exact ⟨this.2, this.1⟩
    have hg0 : rg I I1 := by
      refine ⟨k3, fun f c1 c2 c3 c4 c5 => ?_⟩
      rw [f26, if_neg c5, if_neg c2, if_neg c1]
    show ∃ v I' J', m148_17 F (f + 1) _ _ _ = _ ∧ _
    rw [m148_17, if_pos (show mc2 .ge (nI 25) 25 = true by decide)]
    rw [show (1 : Int32) = nI (if decide (0 = 0) = true then 1 else 0) from rfl, show (0 : Int32) = nI 0 from rfl]
    refine lpm (fun f (x : hI × hJ × Nat × Nat × tT × Nat × Nat) => m148_47 F f 26 (nI (if decide (x.2.2.2.2.2.2 = 0) = true then 1 else 0)) (nI x.2.2.2.2.2.1) (mkH (hs l s d tl) x.1 x.2.1)) (fun x => if x.2.2.2.2.2.1 = 0 then N + 1 - x.2.2.1 else 0) (fun x => (∀ c, c ≠ 26 → x.2.1 c = J c) ∧ rg I x.1 ∧ ((x.2.2.2.2.2.1 = 0 ∧ tok x.2.2.2.2.1 ∧ rq N tx x.2.2.1 x.2.2.2.1 x.2.2.2.2.1 x.1 ∧ x.2.2.2.2.2.2 ≤ x.2.2.1 ∧ prs N tx 121 true 3 tT0 0 = prs N tx (121 - x.2.2.2.2.2.2) (decide (x.2.2.2.2.2.2 = 0)) x.2.2.2.1 x.2.2.2.2.1 x.2.2.1) ∨ (∃ r, rwg N x.2.2.2.2.2.1 r x.1 ∧ prs N tx 121 true 3 tT0 0 = .inl (x.2.2.2.2.2.1, r)))) (fun r => ∃ v I' J', r = some (v, (mkH (hs l s d tl) I' J')) ∧ I' 26 5 = nI 0 ∧ (∀ c, c ≠ 26 → J' c = J c) ∧ ((∃ m T, prs N tx 121 true 3 tT0 0 = .inr (m, T) ∧ tok T ∧ v = nI m ∧ 1 ≤ m ∧ m ≤ 5 ∧ mo_n m (gA T) I' ∧ mo_t m T I' ∧ km m (gA T) [[]] I' ∧ dr m [] I' ∧ I' 26 30 = gI 1 ∧ I' 26 6 = gI 1 ∧ (∀ c, c ≠ 26 → c ≠ 27 → c ≠ 28 → c ≠ 29 → c ≠ 31 → c ≠ 34 → I' c = I c)) ∨ (∃ c q, prs N tx 121 true 3 tT0 0 = .inl (c, q) ∧ v = (-10) - nI c ∧ I' 26 6 = nI q ∧ (∀ c, c ≠ 26 → c ≠ 29 → c ≠ 31 → I' c = I c) ∧ ∀ f, f ≠ 5 → f ≠ 6 → f ≠ 7 → f ≠ 9 → f ≠ 10 → f ≠ 12 → I' 26 f = I 26 f))) ?_ F (I1, J, 0, 3, tT0, 0, 0) ⟨fun _ _ => rfl, hg0, Or.inl ⟨rfl, tok_0, hq0, Nat.le_refl _, rfl⟩⟩ (by dsimp only; rw [if_pos rfl]; omega)
    rintro f ⟨I2, J2, p, m, T, c, k⟩ ⟨a1, a2, a3⟩
    dsimp only at a1 a2 a3
    show (∃ v I' J', m148_47 F (f + 1) _ _ _ _ = _ ∧ _) ∨ ∃ y : hI × hJ × Nat × Nat × tT × Nat × Nat, m148_47 F (f + 1) _ _ _ _ = _ ∧ _
    rw [m148_47]
    dsimp only
    rcases a3 with ⟨rfl, b1, b2, b3, b4⟩ | ⟨r, b1, b2⟩
    · rw [if_neg (show ¬ mc1 .ne (nI 0) = true by decide), rc26, Option.bind_some]
      have hpN := b2.2.1
      obtain ⟨I3, v3, e3, g1, g2, g3⟩ := he_e (l := l) (s := s) (d := d) (tl := tl) (F := F) (J := J2) b2 (by omega)
      have hsk := sk_le (tx := tx) hpN
      have hss := sk_sk (N := N) (tx := tx) hpN
      have hk4 : prs N tx ((121 - (k + 1)) + 1) (decide (k = 0)) m T p = if sk N tx p < N then (match clf N tx (decide (k = 0)) m T (sk N tx p) with
          | .inl e => .inl e
          | .inr (p', m', T') => prs N tx (121 - (k + 1)) false m' T' p') else .inr (m, T) := by rw [prs]; rfl
      rw [show 121 - k = (121 - (k + 1)) + 1 by omega, hk4] at b4
      rcases g3 with ⟨hlt, rfl⟩ | ⟨hlt, rfl⟩
      · right
        rw [if_pos hlt] at b4
        obtain ⟨hb, hb2⟩ := g1.1.2.2 _ hlt
        rw [e3, Option.bind_some, if_neg (show ¬ mc1 .lt (nI (tx (sk N tx p))) = true by rw [d_lt (by omega)]; exact id), rc26, Option.bind_some]
        have ez : ∀ (K : List mE) (x : Int32), m148_47 F f 26 0 x K = m148_47 F f 26 (nI (if decide (k + 1 = 0) = true then 1 else 0)) x K := fun _ _ => rfl
        rcases rcl_e (l := l) (s := s) (d := d) (tl := tl) (F := F) (J := J2) g1 hss hlt b1 hF (decide (k = 0)) with ⟨I4, J4, q, m', T', c1, c2, c3, c4, c5, c6⟩ | ⟨I4, J4, c, q, c1, c2, c3, c4, c6⟩
        · rw [c1] at b4
          rw [c2, Option.bind_some, ez]
          have hqN := c3.2.1
          refine ⟨(I4, J4, q, m', T', 0, k + 1), rfl, ⟨fun c hc => (c6 c hc).trans (a1 c hc), rg_tr (rg_tr a2 g2) c4, Or.inl ⟨rfl, clf_ok b1 c1, c3, by dsimp only; omega, b4⟩⟩, ?_⟩
          dsimp only
          rw [if_pos rfl, if_pos rfl]
          omega
        · rw [c1] at b4
          rw [c2, Option.bind_some, ez]
          refine ⟨(I4, J4, 0, 0, T, c, k + 1), rfl, ⟨fun c hc => (c6 c hc).trans (a1 c hc), rg_tr (rg_tr a2 g2) c4, Or.inr ⟨q, c3, b4⟩⟩, ?_⟩
          dsimp only
          have := c3.1
          rw [if_neg (by omega), if_pos rfl]
          omega
      · left
        rw [if_neg hlt] at b4
        rw [e3, Option.bind_some, if_pos (show mc1 .lt (gI 1) = true by decide)]
        exact done b1 g1 (rg_tr a2 g2) a1 b4
    · left
      have hc1 := b1.1
      have hc3 := b1.2.1
      rw [if_pos (show mc1 .ne (nI c) = true by rw [d_ne (by omega)]; omega)]
      unfold m148_69
      rw [n_0, pi26_5, Option.bind_some, if_neg (show ¬ mc1 .le (nI c) = true by rw [d_le (by omega)]; omega)]
      refine ⟨_, _, J2, rfl, by rw [upI_at, if_pos rfl], a1, Or.inr ⟨c, r, b2, rfl, by rw [upI_at, if_neg (by decide)]; exact b1.2.2.2, fun e c1 c2 c3 => by rw [upI_ne c1]; exact a2.1 e c1 c2 c3, fun g g1 g2 g3 g4 g5 g6 => by rw [upI_at, if_neg g1]; exact a2.2 g g2 g3 g4 g5 g6⟩⟩
  · rintro f k I1 hk ⟨k1, k2, k3⟩
    right
    show ∃ y, m148_17 F (f + 1) _ _ _ = _ ∧ _
    rw [m148_17, if_neg (show ¬ mc2 .ge (nI k) 25 = true by rw [n_25, c_ge (by omega) (by omega)]; omega), gr26_3, Option.bind_some, wI29 (by omega), Option.bind_some, gr26_11, Option.bind_some, wZ31 (by omega) (Or.inl rfl), Option.bind_some]
    rw [show nI k + 1 = nI (k + 1) from nI_1 k]
    refine ⟨_, rfl, ?_, fun i hi => ?_, fun c c1 c2 c3 => ?_⟩
    · rw [upI_ne (by decide), upI_ne (by decide), k1]
    · rw [upI_ne (by decide), upI_at, upI_at]
      by_cases hik : i = k
      · rw [if_pos hik, if_pos hik]
        exact ⟨rfl, rfl⟩
      · rw [if_neg hik, if_neg hik, upI_ne (by decide)]
        exact k2 i (by omega)
    · rw [upI_ne c3, upI_ne c2]
      exact k3 c c1 c2 c3
/-- feed -/
theorem rfe_e (h : rtb N tx I) (hF : 300 ≤ F) {n : Nat} (h1 : 1 ≤ n) (hn : n ≤ 8) {x : Int64} : (120 < N + n ∧ e139 F 26 (nI n) x (mkH (hs l s d tl) I J) = some (gI 1004, (mkH (hs l s d tl) I J))) ∨ (N + n ≤ 120 ∧ ∃ I' tx', e139 F 26 (nI n) x (mkH (hs l s d tl) I J) = some (nI (N + n), (mkH (hs l s d tl) I' J)) ∧ rtb (N + n) tx' I' ∧ (∀ i, i < N → tx' i = tx i) ∧ (∀ k, k < n → tx' (N + (n - 1 - k)) = ((x >>> ((nI 8 * nI k).toInt64 &&& 63)) &&& 255).toInt32.toBitVec.toNat) ∧ (∀ c, c ≠ 26 → c ≠ 30 → I' c = I c) ∧ ∀ f, f ≠ 5 → I' 26 f = I 26 f) := by
  have hN := h.1
  have e0 : e139 F 26 (nI n) x (mkH (hs l s d tl) I J) = m139_0 F 26 (nI n) x (mkH (hs l s d tl) I J) := rfl
  rw [e0]
  unfold m139_0
  have e1 : e137 F (nI n).toInt64 1 8 (mkH (hs l s d tl) I J) = some (nI 1, (mkH (hs l s d tl) I J)) := by
    rcases bw_k (F := F) (x := n) (a := 1) (b := 8) (by omega) (by omega) (by omega) (mkH (hs l s d tl) I J) with ⟨e, _⟩ | ⟨_, e⟩
    · exact e
    · exact absurd ⟨h1, hn⟩ e
  rw [e1, Option.bind_some, if_pos (show mc1 .ne (nI 1) = true by decide), gi26_5, Option.bind_some, h.2.1, nI_add, n_120]
  by_cases hfull : N + n ≤ 120
  · right
    refine ⟨hfull, ?_⟩
    rw [if_pos (show mc2 .le (nI (N + n)) (nI 120) = true by rw [c_le (by omega) (by omega)]; exact hfull), n_1]
    refine lpd (fun f c (q : hI × (Nat → Nat)) => m139_36 F f 26 x (nI c - nI 1) (mkH (hs l s d tl) q.1 J)) (fun c q => c ≤ n ∧ rtb (N + (n - c)) q.2 q.1 ∧ (∀ i, i < N → q.2 i = tx i) ∧ (∀ k, c ≤ k → k < n → q.2 (N + (n - 1 - k)) = ((x >>> ((nI 8 * nI k).toInt64 &&& 63)) &&& 255).toInt32.toBitVec.toNat) ∧ (∀ c, c ≠ 26 → c ≠ 30 → q.1 c = I c) ∧ ∀ f, f ≠ 5 → q.1 26 f = I 26 f) (fun r => ∃ I' tx', r = some (nI (N + n), (mkH (hs l s d tl) I' J)) ∧ rtb (N + n) tx' I' ∧ (∀ i, i < N → tx' i = tx i) ∧ (∀ k, k < n → tx' (N + (n - 1 - k)) = ((x >>> ((nI 8 * nI k).toInt64 &&& 63)) &&& 255).toInt32.toBitVec.toNat) ∧ (∀ c, c ≠ 26 → c ≠ 30 → I' c = I c) ∧ ∀ f, f ≠ 5 → I' 26 f = I 26 f) ?_ ?_ F n (I, tx) (by omega) ⟨Nat.le_refl _, by rw [Nat.sub_self]; exact h, fun _ _ => rfl, fun k h1 h2 => by omega, fun _ _ _ => rfl, fun _ _ => rfl⟩
    · rintro f ⟨I1, t1⟩ ⟨-, k1, k2, k3, k4, k5⟩
      dsimp only at k1 k2 k3 k4 k5
      rw [Nat.sub_zero] at k1
      show ∃ I' tx', m139_36 F (f + 1) _ _ _ _ = _ ∧ _
      rw [m139_36, z_m1, if_pos (show mc1 .lt (gI 1) = true by decide)]
      dsimp only
      rw [gi26_5, Option.bind_some, k1.2.1]
      exact ⟨I1, t1, rfl, k1, k2, fun k hk => k3 k (by omega) hk, k4, k5⟩
    · rintro f c ⟨I1, t1⟩ ⟨k0, k1, k2, k3, k4, k5⟩
      dsimp only at k0 k1 k2 k3 k4 k5
      right
      have hy : ∃ y, ((x >>> ((nI 8 * nI c).toInt64 &&& 63)) &&& 255).toInt32 = nI y ∧ y < 256 ∧ y = ((x >>> ((nI 8 * nI c).toInt64 &&& 63)) &&& 255).toInt32.toBitVec.toNat := by
        generalize x >>> ((nI 8 * nI c).toInt64 &&& 63) = z
        have e1 : (z &&& 255).toInt32 = z.toInt32 &&& 255 := by rw [Int64.toInt32_and]; rfl
        rw [e1, pk_and z.toInt32 8 (by decide)]
        have hlt : z.toInt32.toBitVec.toNat % 2 ^ 8 < 256 := Nat.mod_lt _ (by decide)
        refine ⟨_, rfl, hlt, ?_⟩
        rw [pk_tn (by omega)]
      obtain ⟨y, hy1, hy2, hy3⟩ := hy
      have h41 : upI I1 30 (N + (n - (c + 1))) (nI y) 26 5 = nI (N + (n - (c + 1))) := by rw [upI_ne (by decide), k1.2.1]
      show ∃ q : hI × (Nat → Nat), m139_36 F (f + 1) _ _ _ _ = _ ∧ _
      rw [m139_36, pk_sub1, if_neg (show ¬ mc1 .lt (nI c) = true by rw [d_lt (by omega)]; exact id)]
      dsimp only
      rw [gr26_4, Option.bind_some, gi26_5, Option.bind_some, k1.2.1, n_8, hy1, wI30 (by omega), Option.bind_some, gi26_5, Option.bind_some, h41, pi26_5, Option.bind_some, n_1, nI_add, n_m, p_m1]
      simp only [Prod.exists]
      refine ⟨_, fun i => if i = N + (n - (c + 1)) then y else t1 i, rfl, by omega, ⟨by omega, ?_, fun i hi => ?_⟩, fun i hi => ?_, fun k h1 h2 => ?_, fun e c1 c2 => ?_, fun g hg => ?_⟩
      · rw [upI_at, if_pos rfl]
        congr 1
        omega
      · rw [upI_ne (by decide), upI_at]
        dsimp only
        by_cases hii : i = N + (n - (c + 1))
        · rw [if_pos hii, if_pos hii]
          exact ⟨rfl, hy2⟩
        · rw [if_neg hii, if_neg hii]
          exact k1.2.2 i (by omega)
      · dsimp only
        rw [if_neg (by omega)]
        exact k2 i hi
      · dsimp only
        by_cases hkc : k = c
        · subst hkc
          rw [if_pos (by omega)]
          exact hy3
        · rw [if_neg (by omega)]
          exact k3 k (by omega) h2
      · rw [upI_ne c1, upI_ne c2]
        exact k4 e c1 c2
      · rw [upI_at, if_neg hg, upI_ne (by decide)]
        exact k5 g hg
  · left
    rw [if_neg (show ¬ mc2 .le (nI (N + n)) (nI 120) = true by rw [c_le (by omega) (by omega)]; exact hfull)]
    exact ⟨by omega, rfl⟩
end S
