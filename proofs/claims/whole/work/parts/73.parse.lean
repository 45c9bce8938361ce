/-! The class's reading: words, clauses. -/
theorem sl_1 : Int32.ofNat (sLen.getD (1000001 - 1000001) 0) >>> ((0 : Int32) &&& 31) = nI 7 := by decide +kernel
theorem sl_2 : Int32.ofNat (sLen.getD (1000002 - 1000001) 0) >>> ((0 : Int32) &&& 31) = nI 5 := by decide +kernel
theorem sg_1 : sLen.getD (1000001 - 1000001) 0 = 7 := by decide +kernel
theorem sg_2 : sLen.getD (1000002 - 1000001) 0 = 5 := by decide +kernel
theorem sc_1 : ∀ i, i < 7 → sch (1000001 - 1000001) (nI i) = nI (w_mir.getD i 0) := by decide +kernel
theorem sc_2 : ∀ i, i < 5 → sch (1000002 - 1000001) (nI i) = nI (w_nev.getD i 0) := by decide +kernel
/-- which word -/
def wid (w : Nat) (W : List Nat) : Prop := (w = 1000001 ∧ W = w_mir) ∨ (w = 1000002 ∧ W = w_nev)
theorem wid_f {w : Nat} {W : List Nat} (h : wid w W) : (w = 1000001 ∨ w = 1000002) ∧ Int32.ofNat (sLen.getD (w - 1000001) 0) >>> ((0 : Int32) &&& 31) = nI W.length ∧ sLen.getD (w - 1000001) 0 = W.length ∧ W.length ≤ 7 ∧ ∀ i c, W[i]? = some c → sch (w - 1000001) (nI i) = nI c ∧ c < 256 := by
  have key : ∀ {V : List Nat} {i c : Nat}, V[i]? = some c → i < V.length ∧ V.getD i 0 = c := by
    intro V i c h
    have h1 := (List.getElem?_eq_some_iff.mp h).1
    refine ⟨h1, ?_⟩
    rw [List.getD_eq_getElem?_getD, h]
    rfl
  rcases h with ⟨rfl, rfl⟩ | ⟨rfl, rfl⟩
  · refine ⟨Or.inl rfl, sl_1, sg_1, by decide, fun i c hc => ?_⟩
    obtain ⟨h1, h2⟩ := key hc
    have h1' : i < 7 := h1
    refine ⟨by rw [sc_1 i h1', h2], ?_⟩
    have : ∀ c ∈ w_mir, c < 256 := by decide
    exact this c (List.mem_of_getElem? hc)
  · refine ⟨Or.inr rfl, sl_2, sg_2, by decide, fun i c hc => ?_⟩
    obtain ⟨h1, h2⟩ := key hc
    have h1' : i < 5 := h1
    refine ⟨by rw [sc_2 i h1', h2], ?_⟩
    have : ∀ c ∈ w_nev, c < 256 := by decide
    exact this c (List.mem_of_getElem? hc)
section S
variable {l s d : Value} {tl : List hQ} {F : Nat} {I : hI} {J : hJ} {N p m : Nat} {tx : Nat → Nat} {T : tT}
/-- takeWord -/
theorem tkw_e (h : tq N tx p m T I) (hF : 300 ≤ F) {w : Nat} {W : List Nat} (hw : wid w W) : ∃ I', ((wl N tx p = W ∧ e86 F 4 w (mkH (hs l s d tl) I J) = some (nI 1, (mkH (hs l s d tl) I' J))) ∨ (wl N tx p ≠ W ∧ e86 F 4 w (mkH (hs l s d tl) I J) = some (nI 0, (mkH (hs l s d tl) I' J)))) ∧ tq N tx (p + (wl N tx p).length) m T I' ∧ tf I I' := by
  have hN := h.1.1
  have hpN := h.2.1
  obtain ⟨hw1, hw2, hw3, hw4, hw5⟩ := wid_f hw
  have key := lpm (fun f (x : hI × Nat × Nat) => m86_7 F f 4 w (nI p) (nI x.2.2) (mkH (hs l s d tl) x.1 J)) (fun x => N - x.2.1) (fun x => tq N tx x.2.1 m T x.1 ∧ tf I x.1 ∧ p ≤ x.2.1 ∧ ∃ pre, wl N tx p = pre ++ wl N tx x.2.1 ∧ pre.length = x.2.1 - p ∧ ((x.2.2 = 1 ∧ ∃ r, W = pre ++ r) ∨ (x.2.2 = 0 ∧ ¬ ∃ r, W = pre ++ r))) (fun r => ∃ I', ((wl N tx p = W ∧ r = some (nI 1, (mkH (hs l s d tl) I' J))) ∨ (wl N tx p ≠ W ∧ r = some (nI 0, (mkH (hs l s d tl) I' J)))) ∧ tq N tx (p + (wl N tx p).length) m T I' ∧ tf I I') ?_ F (I, p, 1) ⟨h, tf_rf I, Nat.le_refl _, [], rfl, by simp, Or.inl ⟨rfl, W, rfl⟩⟩ (by dsimp only; omega)
  · have e : e86 F 4 w (mkH (hs l s d tl) I J) = m86_7 F F 4 w (nI p) (nI 1) (mkH (hs l s d tl) I J) := by
      show m86_0 F 4 w _ = _
      unfold m86_0
      simp only [rc0, gr0_0, gr0_1, gr0_2, gr0_3, gr0_4, gr0_5, gr0_6, gi0_7, pi0_7, rc1, gi1_0, pi1_0, gr1_1, gr1_2, rc4, gr4_0, gi4_1, pi4_1, gi4_2, pi4_2, gi4_3, pi4_3, gi4_4, pi4_4, gi4_5, pi4_5, gr4_6, gr4_7, rc8, gr8_0, gi8_1, pi8_1, gr8_2, gr8_3, gr8_4, gr8_5, gr8_6, rc14, gr14_0, gr14_1, gr14_2, gr14_3, gr14_4, gr14_5, rc19, gr19_0, gr19_1, gr19_2, gr19_3, rc22, gr22_0, gr22_1, gr22_2, gr22_3, Option.bind_some, h.2.2.1, n_1]
    rw [e]
    exact key
  · rintro f ⟨I1, q, sm⟩ ⟨h1, h2, h3, pre, h4, h5, h6⟩
    dsimp only at h1 h2 h3 h4 h5 h6
    have hqN := h1.2.1
    have hsz := h1.1.2.1
    have hsp := h1.2.2.1
    have stop : wl N tx q = [] → ∃ I', ((wl N tx p = W ∧ m86_79 F 4 w (nI p) (nI sm) (mkH (hs l s d tl) I1 J) = some (nI 1, (mkH (hs l s d tl) I' J))) ∨ (wl N tx p ≠ W ∧ m86_79 F 4 w (nI p) (nI sm) (mkH (hs l s d tl) I1 J) = some (nI 0, (mkH (hs l s d tl) I' J)))) ∧ tq N tx (p + (wl N tx p).length) m T I' ∧ tf I I' := by
      intro hwl
      rw [hwl, List.append_nil] at h4
      have hq : p + (wl N tx p).length = q := by rw [h4, h5]; omega
      refine ⟨I1, ?_, by rw [hq]; exact h1, h2⟩
      unfold m86_79 m86_100 m86_101
      rcases h6 with ⟨rfl, r, h6⟩ | ⟨rfl, h6⟩
      · rw [if_neg (show ¬ mc1 .eq (nI 1) = true by decide), gi4_2, Option.bind_some, hsp, if_pos hw1, hw2, pk_sub (by omega)]
        by_cases hl : q - p = W.length
        · left
          rw [if_neg (show ¬ mc2 .ne (nI (q - p)) (nI W.length) = true by rw [c_ne (by omega) (by omega)]; exact fun h => h hl)]
          refine ⟨?_, rfl⟩
          have : r = [] := by
            have := congrArg List.length h6
            rw [List.length_append] at this
            exact List.length_eq_zero_iff.mp (by omega)
          rw [h4, h6, this, List.append_nil]
        · right
          rw [if_pos (show mc2 .ne (nI (q - p)) (nI W.length) = true by rw [c_ne (by omega) (by omega)]; exact hl)]
          refine ⟨fun e => hl ?_, rfl⟩
          rw [← e, h4, h5]
      · right
        rw [if_pos (show mc1 .eq (nI 0) = true by decide)]
        exact ⟨fun e => h6 ⟨[], by rw [List.append_nil, ← h4, e]⟩, rfl⟩
    show (∃ I', ((_ ∧ m86_7 F (f + 1) _ _ _ _ _ = _) ∨ (_ ∧ m86_7 F (f + 1) _ _ _ _ _ = _)) ∧ _) ∨ ∃ y : hI × Nat × Nat, m86_7 F (f + 1) _ _ _ _ _ = _ ∧ _
    rw [m86_7]
    dsimp only
    rw [gi4_2, Option.bind_some, gi4_1, Option.bind_some, hsz, hsp]
    by_cases hend : N ≤ q
    · left
      rw [if_pos (show mc2 .ge (nI q) (nI N) = true by rw [c_ge (by omega) (by omega)]; exact hend)]
      exact stop (wl_end hend)
    · obtain ⟨hb, hb2⟩ := h1.1.2.2 q (by omega)
      rw [if_neg (show ¬ mc2 .ge (nI q) (nI N) = true by rw [c_ge (by omega) (by omega)]; exact hend), Option.bind_some, rc4, Option.bind_some]
      rcases il_e (l := l) (s := s) (d := d) (tl := tl) (F := F) (J := J) h1.1 (show q < N by omega) with ⟨e2, hlt⟩ | ⟨e2, hlt⟩
      · right
        have hwl := wl_go (N := N) (p := q) (by omega) hlt
        have nx : tq N tx (q + 1) m T (upI I1 4 2 (nI (q + 1))) := tq_p h1 (by omega)
        have htf : tf I (upI I1 4 2 (nI (q + 1))) := tf_tr h2 (tf_up _ _ _)
        have h4' : wl N tx p = (pre ++ [tx q]) ++ wl N tx (q + 1) := by rw [h4, hwl, List.append_assoc]; rfl
        have h5' : (pre ++ [tx q]).length = q + 1 - p := by rw [List.length_append, h5]; simp; omega
        have nop : ∀ {v : Nat}, v = 0 → (¬ ∃ r, W = (pre ++ [tx q]) ++ r) → ∃ y : hI × Nat × Nat, m86_66 F (m86_7 F f) 4 w (nI p) (nI v) (mkH (hs l s d tl) I1 J) = m86_7 F f 4 w (nI p) (nI y.2.2) (mkH (hs l s d tl) y.1 J) ∧ (tq N tx y.2.1 m T y.1 ∧ tf I y.1 ∧ p ≤ y.2.1 ∧ ∃ pre, wl N tx p = pre ++ wl N tx y.2.1 ∧ pre.length = y.2.1 - p ∧ ((y.2.2 = 1 ∧ ∃ r, W = pre ++ r) ∨ (y.2.2 = 0 ∧ ¬ ∃ r, W = pre ++ r))) ∧ N - y.2.1 < N - q := by
          intro v hv hno
          unfold m86_66
          simp (disch := omega) only [rc0, gr0_0, gr0_1, gr0_2, gr0_3, gr0_4, gr0_5, gr0_6, gi0_7, pi0_7, rc1, gi1_0, pi1_0, gr1_1, gr1_2, rc4, gr4_0, gi4_1, pi4_1, gi4_2, pi4_2, gi4_3, pi4_3, gi4_4, pi4_4, gi4_5, pi4_5, gr4_6, gr4_7, rc8, gr8_0, gi8_1, pi8_1, gr8_2, gr8_3, gr8_4, gr8_5, gr8_6, rc14, gr14_0, gr14_1, gr14_2, gr14_3, gr14_4, gr14_5, rc19, gr19_0, gr19_1, gr19_2, gr19_3, rc22, gr22_0, gr22_1, gr22_2, gr22_3, Option.bind_some, hsp, n_1, nI_add]
          exact ⟨(_, q + 1, v), rfl, ⟨nx, htf, by dsimp only; omega, pre ++ [tx q], h4', h5', Or.inr ⟨hv, hno⟩⟩, by dsimp only; omega⟩
        rw [e2, Option.bind_some, if_neg (show ¬ mc1 .eq (nI 1) = true by decide), gi4_2, Option.bind_some, hsp, if_pos hw1, hw2, hw3, pk_sub (by omega)]
        by_cases hge : W.length ≤ q - p
        · rw [if_pos (show mc2 .ge (nI (q - p)) (nI W.length) = true by rw [c_ge (by omega) (by omega)]; exact hge)]
          unfold m86_64
          refine nop rfl ?_
          rintro ⟨r, hr⟩
          have := congrArg List.length hr
          rw [List.length_append, h5'] at this
          omega
        · rw [if_neg (show ¬ mc2 .ge (nI (q - p)) (nI W.length) = true by rw [c_ge (by omega) (by omega)]; exact hge)]
          obtain ⟨c, hc⟩ := ex_at (show q - p < W.length by omega)
          obtain ⟨hc1, hc2⟩ := hw5 _ c hc
          have hcond : (w = 1000001 ∨ w = 1000002) ∧ ¬ (nI (q - p) < 0 ∨ W.length ≤ (nI (q - p)).toNatClampNeg) := ⟨hw1, nI_in (by omega) (by omega)⟩
          rw [if_pos hcond, gr4_0, Option.bind_some, Option.bind_some]
          dsimp only
          rw [rI5 (by omega), Option.bind_some, hb, hc1]
          have ceq : (mc2 .eq (nI c) (nI (tx q)) = true) = (c = tx q) := c_eq (by omega) (by omega)
          rcases h6 with ⟨rfl, r, h6⟩ | ⟨rfl, h6⟩
          · have hr : W = pre ++ (c :: r.drop 1) := by
              have hlen := congrArg List.length h6
              rw [List.length_append] at hlen
              cases r with
              | nil => simp at hlen; omega
              | cons c' r =>
                have : c' = c := by
                  rw [h6, List.getElem?_append_right (by omega), h5, Nat.sub_self] at hc
                  exact Option.some.inj hc
                rw [this] at h6
                exact h6
            by_cases hct : c = tx q
            · rw [if_pos (show mc2 .eq (nI c) (nI (tx q)) = true by rw [ceq]; exact hct)]
              unfold m86_66
              simp (disch := omega) only [rc0, gr0_0, gr0_1, gr0_2, gr0_3, gr0_4, gr0_5, gr0_6, gi0_7, pi0_7, rc1, gi1_0, pi1_0, gr1_1, gr1_2, rc4, gr4_0, gi4_1, pi4_1, gi4_2, pi4_2, gi4_3, pi4_3, gi4_4, pi4_4, gi4_5, pi4_5, gr4_6, gr4_7, rc8, gr8_0, gi8_1, pi8_1, gr8_2, gr8_3, gr8_4, gr8_5, gr8_6, rc14, gr14_0, gr14_1, gr14_2, gr14_3, gr14_4, gr14_5, rc19, gr19_0, gr19_1, gr19_2, gr19_3, rc22, gr22_0, gr22_1, gr22_2, gr22_3, Option.bind_some, hsp, n_1, nI_add]
              refine ⟨(_, q + 1, 1), rfl, ⟨nx, htf, by dsimp only; omega, pre ++ [tx q], h4', h5', Or.inl ⟨rfl, r.drop 1, ?_⟩⟩, by dsimp only; omega⟩
              rw [← hct, List.append_assoc]
              exact hr
            · rw [if_neg (show ¬ mc2 .eq (nI c) (nI (tx q)) = true by rw [ceq]; exact hct)]
              unfold m86_64
              refine nop rfl ?_
              rintro ⟨r', hr'⟩
              rw [hr, List.append_assoc] at hr'
              have := List.append_cancel_left hr'
              exact hct (List.cons.inj this).1
          · have hno : ¬ ∃ r, W = (pre ++ [tx q]) ++ r := by
              rintro ⟨r', hr'⟩
              rw [List.append_assoc] at hr'
              exact h6 ⟨_, hr'⟩
            by_cases hct : c = tx q
            · rw [if_pos (show mc2 .eq (nI c) (nI (tx q)) = true by rw [ceq]; exact hct)]
              exact nop rfl hno
            · rw [if_neg (show ¬ mc2 .eq (nI c) (nI (tx q)) = true by rw [ceq]; exact hct)]
              unfold m86_64
              exact nop rfl hno
      · left
        rw [e2, Option.bind_some, if_pos (show mc1 .eq (nI 0) = true by decide)]
        exact stop (wl_stop (N := N) (p := q) (by omega) hlt)
/-- the outcome of a piece: a place behind it, or a fault -/
theorem tw_fr {c q : Nat} {I0 I I' : hI} (h : tw N c q I I') (h1 : I 4 1 = I0 4 1) : tw N c q I0 I' := ⟨h.1, h.2.1, h.2.2.1, h.2.2.2.1, h.2.2.2.2.1, h.2.2.2.2.2.trans h1⟩
theorem tq_41 {q m' : Nat} {T' : tT} {I' : hI} (h : tq N tx p m T I) (h' : tq N tx q m' T' I') : I' 4 1 = I 4 1 := by rw [h.1.2.1, h'.1.2.1]
/-- takeTurns -/
theorem tt_e (h : tq N tx p m T I) (hF : 300 ≤ F) : (∃ I' t q, turnc N tx p = .inr (t, q) ∧ t < 10 ∧ e83 F 4 (mkH (hs l s d tl) I J) = some (nI t, (mkH (hs l s d tl) I' J)) ∧ tq N tx q m T I' ∧ tf I I') ∨ (∃ I' v c q, turnc N tx p = .inl (c, q) ∧ e83 F 4 (mkH (hs l s d tl) I J) = some (v, (mkH (hs l s d tl) I' J)) ∧ tw N c q I I' ∧ tf I I') := by
  have hN := h.1.1
  have hpN := h.2.1
  obtain ⟨I1, e1, h1, h2⟩ := fn_e (l := l) (s := s) (d := d) (tl := tl) (F := F) (J := J) h (by omega)
  have hsz := h1.1.2.1
  have hsp := h1.2.2.1
  have hle := h1.2.1
  have hss := sk_sk (N := N) (tx := tx) hpN
  have h41 := tq_41 h h1
  -- a figure
  have fig : ¬ (sk N tx p < N ∧ (97 ≤ tx (sk N tx p) ∧ tx (sk N tx p) ≤ 122)) → (∃ I' t q, turnc N tx p = .inr (t, q) ∧ t < 10 ∧ m83_40 F 4 (mkH (hs l s d tl) I1 J) = some (nI t, (mkH (hs l s d tl) I' J)) ∧ tq N tx q m T I' ∧ tf I I') ∨ (∃ I' v c q, turnc N tx p = .inl (c, q) ∧ m83_40 F 4 (mkH (hs l s d tl) I1 J) = some (v, (mkH (hs l s d tl) I' J)) ∧ tw N c q I I' ∧ tf I I') := by
    intro hno
    have hfe : figr N tx (sk N tx p) 0 9 = figr N tx p 0 9 := by unfold figr; rw [hss]
    rcases tg_e (l := l) (s := s) (d := d) (tl := tl) (F := F) (J := J) h1 hF with ⟨I2, v, g1, g2, -, g3, g4, g5⟩ | ⟨I2, g1, -, g3, g4, g5⟩
    · rw [hss] at g1 g4
      rw [hfe] at g1
      have h3 := g4.2.2.2.1
      have h2s := g4.2.2.1
      have htc : turnc N tx p = if v = 2 ∨ v = 3 ∨ v = 4 ∨ v = 6 then .inr (v, sk N tx p + 1) else .inl (2, sk N tx p + 1 - 1) := by
        unfold turnc
        rw [if_neg hno, g1]
      have em : m83_40 F 4 (mkH (hs l s d tl) I1 J) = if v = 2 then some (nI v, (mkH (hs l s d tl) I2 J)) else if v = 3 then some (nI v, (mkH (hs l s d tl) I2 J)) else if v = 4 then some (nI v, (mkH (hs l s d tl) I2 J)) else if v = 6 then some (nI v, (mkH (hs l s d tl) I2 J)) else some (nI v, (mkH (hs l s d tl) (upI (upI I2 4 3 (nI 2)) 4 4 (nI (sk N tx p))) J)) := by
        unfold m83_40 m83_84
        simp (disch := omega) only [rc0, gr0_0, gr0_1, gr0_2, gr0_3, gr0_4, gr0_5, gr0_6, gi0_7, pi0_7, rc1, gi1_0, pi1_0, gr1_1, gr1_2, rc4, gr4_0, gi4_1, pi4_1, gi4_2, pi4_2, gi4_3, pi4_3, gi4_4, pi4_4, gi4_5, pi4_5, gr4_6, gr4_7, rc8, gr8_0, gi8_1, pi8_1, gr8_2, gr8_3, gr8_4, gr8_5, gr8_6, rc14, gr14_0, gr14_1, gr14_2, gr14_3, gr14_4, gr14_5, rc19, gr19_0, gr19_1, gr19_2, gr19_3, rc22, gr22_0, gr22_1, gr22_2, gr22_3, Option.bind_some, g3, h3, d_ne, n_2, n_3, n_4, n_6, c_eq, h2s, n_1, pk_sub, Nat.add_sub_cancel, bl_e]
        rw [if_neg (fun h => h rfl)]
      by_cases hv : v = 2 ∨ v = 3 ∨ v = 4 ∨ v = 6
      · left
        refine ⟨I2, v, sk N tx p + 1, by rw [htc, if_pos hv], g2, ?_, g4, tf_tr h2 g5⟩
        rw [em]
        rcases hv with hv | hv | hv | hv
        · rw [if_pos hv]
        · rw [if_neg (by omega), if_pos hv]
        · rw [if_neg (by omega), if_neg (by omega), if_pos hv]
        · rw [if_neg (by omega), if_neg (by omega), if_neg (by omega), if_pos hv]
      · right
        have hg4 := g4.2.1
        refine ⟨upI (upI I2 4 3 (nI 2)) 4 4 (nI (sk N tx p)), nI v, 2, sk N tx p, ?_, ?_, tw_fr (bl_w g4.1 (by omega) (by omega) (by omega)) (tq_41 h g4), tf_tr (tf_tr h2 g5) (tf_tr (tf_up _ _ _) (tf_up _ _ _))⟩
        · rw [htc, if_neg hv, Nat.add_sub_cancel]
        · rw [em, if_neg (by omega), if_neg (by omega), if_neg (by omega), if_neg (by omega)]
    · right
      rw [hss] at g1 g4
      rw [hfe] at g1
      have htc : turnc N tx p = .inl (1, sk N tx p) := by
        unfold turnc
        rw [if_neg hno, g1]
      have h3 := g4.2.2.2.1
      refine ⟨I2, gI 1, 1, sk N tx p, htc, ?_, tw_fr g4 h41, tf_tr h2 g5⟩
      unfold m83_40 m83_84
      simp (disch := omega) only [rc0, gr0_0, gr0_1, gr0_2, gr0_3, gr0_4, gr0_5, gr0_6, gi0_7, pi0_7, rc1, gi1_0, pi1_0, gr1_1, gr1_2, rc4, gr4_0, gi4_1, pi4_1, gi4_2, pi4_2, gi4_3, pi4_3, gi4_4, pi4_4, gi4_5, pi4_5, gr4_6, gr4_7, rc8, gr8_0, gi8_1, pi8_1, gr8_2, gr8_3, gr8_4, gr8_5, gr8_6, rc14, gr14_0, gr14_1, gr14_2, gr14_3, gr14_4, gr14_5, rc19, gr19_0, gr19_1, gr19_2, gr19_3, rc22, gr22_0, gr22_1, gr22_2, gr22_3, Option.bind_some, g3, h3, d_ne]
      rw [if_pos (by omega)]
  show (∃ I' t q, _ ∧ _ ∧ m83_0 F 4 _ = _ ∧ _) ∨ (∃ I' v c q, _ ∧ m83_0 F 4 _ = _ ∧ _)
  unfold m83_0
  simp only [rc0, gr0_0, gr0_1, gr0_2, gr0_3, gr0_4, gr0_5, gr0_6, gi0_7, pi0_7, rc1, gi1_0, pi1_0, gr1_1, gr1_2, rc4, gr4_0, gi4_1, pi4_1, gi4_2, pi4_2, gi4_3, pi4_3, gi4_4, pi4_4, gi4_5, pi4_5, gr4_6, gr4_7, rc8, gr8_0, gi8_1, pi8_1, gr8_2, gr8_3, gr8_4, gr8_5, gr8_6, rc14, gr14_0, gr14_1, gr14_2, gr14_3, gr14_4, gr14_5, rc19, gr19_0, gr19_1, gr19_2, gr19_3, rc22, gr22_0, gr22_1, gr22_2, gr22_3, Option.bind_some]
  rcases e1 with ⟨hlt, e1⟩ | ⟨hlt, e1⟩
  · rw [e1]
    simp (disch := omega) only [Option.bind_some, d_eq, nn1z, if_false, rc0, gr0_0, gr0_1, gr0_2, gr0_3, gr0_4, gr0_5, gr0_6, gi0_7, pi0_7, rc1, gi1_0, pi1_0, gr1_1, gr1_2, rc4, gr4_0, gi4_1, pi4_1, gi4_2, pi4_2, gi4_3, pi4_3, gi4_4, pi4_4, gi4_5, pi4_5, gr4_6, gr4_7, rc8, gr8_0, gi8_1, pi8_1, gr8_2, gr8_3, gr8_4, gr8_5, gr8_6, rc14, gr14_0, gr14_1, gr14_2, gr14_3, gr14_4, gr14_5, rc19, gr19_0, gr19_1, gr19_2, gr19_3, rc22, gr22_0, gr22_1, gr22_2, gr22_3, hsp]
    rcases il_e (l := l) (s := s) (d := d) (tl := tl) (F := F) (J := J) h1.1 hlt with ⟨e2, hl⟩ | ⟨e2, hl⟩
    · rw [e2]
      simp (disch := omega) only [Option.bind_some, d_eq, nn1z, if_false, rc0, gr0_0, gr0_1, gr0_2, gr0_3, gr0_4, gr0_5, gr0_6, gi0_7, pi0_7, rc1, gi1_0, pi1_0, gr1_1, gr1_2, rc4, gr4_0, gi4_1, pi4_1, gi4_2, pi4_2, gi4_3, pi4_3, gi4_4, pi4_4, gi4_5, pi4_5, gr4_6, gr4_7, rc8, gr8_0, gi8_1, pi8_1, gr8_2, gr8_3, gr8_4, gr8_5, gr8_6, rc14, gr14_0, gr14_1, gr14_2, gr14_3, gr14_4, gr14_5, rc19, gr19_0, gr19_1, gr19_2, gr19_3, rc22, gr22_0, gr22_1, gr22_2, gr22_3, hsp]
      obtain ⟨I2, e3, h3, h4⟩ := tkw_e (l := l) (s := s) (d := d) (tl := tl) (F := F) (J := J) h1 hF (w := 1000002) (W := w_nev) (Or.inr ⟨rfl, rfl⟩)
      unfold turnc m83_38
      rw [if_pos ⟨hlt, hl⟩]
      rcases e3 with ⟨hw, e3⟩ | ⟨hw, e3⟩
      · left
        rw [e3, if_pos hw]
        simp (disch := omega) only [Option.bind_some, d_ne]
        rw [if_pos (by omega)]
        have hl5 : (wl N tx (sk N tx p)).length = 5 := by rw [hw]; rfl
        rw [hl5] at h3
        exact ⟨I2, 0, _, rfl, by omega, rfl, h3, tf_tr h2 h4⟩
      · right
        rw [e3, if_neg hw]
        simp (disch := omega) only [Option.bind_some, d_ne]
        rw [if_neg (by omega)]
        simp (disch := omega) only [rc0, gr0_0, gr0_1, gr0_2, gr0_3, gr0_4, gr0_5, gr0_6, gi0_7, pi0_7, rc1, gi1_0, pi1_0, gr1_1, gr1_2, rc4, gr4_0, gi4_1, pi4_1, gi4_2, pi4_2, gi4_3, pi4_3, gi4_4, pi4_4, gi4_5, pi4_5, gr4_6, gr4_7, rc8, gr8_0, gi8_1, pi8_1, gr8_2, gr8_3, gr8_4, gr8_5, gr8_6, rc14, gr14_0, gr14_1, gr14_2, gr14_3, gr14_4, gr14_5, rc19, gr19_0, gr19_1, gr19_2, gr19_3, rc22, gr22_0, gr22_1, gr22_2, gr22_3, Option.bind_some, n_1, bl_e]
        exact ⟨_, _, 1, sk N tx p, rfl, rfl, tw_fr (bl_w h3.1 (by omega) (by omega) hle) (tq_41 h h3), tf_tr (tf_tr h2 h4) (tf_tr (tf_up _ _ _) (tf_up _ _ _))⟩
    · rw [e2]
      simp (disch := omega) only [Option.bind_some, d_eq, if_true]
      exact fig (fun hh => hl hh.2)
  · rw [e1]
    simp (disch := omega) only [Option.bind_some, d_eq, if_true]
    exact fig (fun hh => hlt hh.1)
end S
