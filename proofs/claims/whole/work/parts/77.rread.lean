/-! The reference's reading: clauses, the text. -/
section S
variable {l s d : Value} {tl : List hQ} {F : Nat} {I : hI} {J : hJ} {N p m : Nat} {tx : Nat → Nat} {T : tT}
theorem cd_nev (hp : List mE) : ∃ k, e143 F 0 110 101 118 101 hp = some (k, hp) ∧ e143 F k 114 0 0 0 hp = some (zJ 7554780, hp) := ⟨zJ 279806, rfl, rfl⟩
theorem cd_mir (hp : List mE) : ∃ k, e143 F 0 109 105 114 114 hp = some (k, hp) ∧ e143 F k 111 114 115 0 hp = some (zJ 5175538192, hp) := ⟨zJ 262944, rfl, rfl⟩
theorem zJ_big {a b : Int} (h0 : 0 ≤ a) (h1 : a ≤ 600000000000) (h2 : 0 ≤ b) (h3 : b ≤ 600000000000) : (mc1 .eq (lg_cmp (zJ a) (zJ b)) = true) = (a = b) := by
  rw [k_eq]
  exact propext ⟨fun h => zJ_inj (by omega) (by omega) (by omega) (by omega) h, fun h => by rw [h]⟩
def tV (T : tT) (i j : Nat) : tT := fun a b => if (a = i ∧ b = j) ∨ (a = j ∧ b = i) then some ((T a b).getD 2) else T a b
theorem tV_in {T : tT} {i j a b : Nat} (h : (a = i ∧ b = j) ∨ (a = j ∧ b = i)) : tV T i j a b = some ((T a b).getD 2) := if_pos h
theorem tV_out {T : tT} {i j a b : Nat} (h : ¬ ((a = i ∧ b = j) ∨ (a = j ∧ b = i))) : tV T i j a b = T a b := if_neg h
theorem tU_in {T : tT} {i j t a b : Nat} (h : (a = i ∧ b = j) ∨ (a = j ∧ b = i)) : tU T i j t a b = some t := if_pos h
theorem tU_out {T : tT} {i j t a b : Nat} (h : ¬ ((a = i ∧ b = j) ∨ (a = j ∧ b = i))) : tU T i j t a b = T a b := if_neg h
/-- the place of a pair -/
def pix (i j : Nat) : Nat := if i < j then 5 * i + j else 5 * j + i
theorem rq_T (h : rq N tx p m T I) {i j t : Nat} (hi : i < 5) (hj : j < 5) (hij : i ≠ j) {I' : hI} (h31 : ∀ q, I' 31 q = if q = pix i j then nI 1 else I 31 q) (h29 : ∀ q, I' 29 q = if q = pix i j then nI t else I 29 q) (h26 : I' 26 = I 26) (h30 : I' 30 = I 30) : rq N tx p m (tU T i j t) I' := by
  obtain ⟨⟨k1, k2, k3⟩, k4, k5, k6, k8, k9, k10, k11⟩ := h
  refine ⟨⟨k1, by rw [h26, k2], fun i hi => by rw [h30]; exact k3 i hi⟩, k4, by rw [h26, k5], by rw [h26, k6], k8, k9, by rw [h26, k10], fun a b hab hb => ?_⟩
  rw [h31, h29]
  unfold tU pix
  by_cases h1 : (a = i ∧ b = j) ∨ (a = j ∧ b = i)
  · rw [if_pos h1]
    have e : 5 * a + b = if i < j then 5 * i + j else 5 * j + i := by
      split <;> omega
    rw [if_pos e, if_pos e]
    exact ⟨rfl, rfl⟩
  · have e : ¬ 5 * a + b = if i < j then 5 * i + j else 5 * j + i := by
      split <;> omega
    rw [if_neg h1, if_neg e, if_neg e]
    exact k11 a b hab hb
theorem upI_ifx (I : hI) (b q : Nat) (x : Int32) (k : Nat) : upI I b q x b k = if k = q then x else I b k := upI_at I b q x k
/-- readTurns: behind it the pair's turns stand in fresh -/
theorem rt_e (h : rq N tx p m T I) (hF : 300 ≤ F) {pr : Nat} (hpr : pr < 25) : (∃ I' J' t q, turnc N tx p = .inr (t, q) ∧ e145 F 26 (nI pr) (mkH (hs l s d tl) I J) = some (nI 0, (mkH (hs l s d tl) (upI I' 29 pr (nI t)) J')) ∧ rq N tx q m T I' ∧ rg I I' ∧ ∀ c, c ≠ 26 → J' c = J c) ∨ (∃ I' J' c q, turnc N tx p = .inl (c, q) ∧ e145 F 26 (nI pr) (mkH (hs l s d tl) I J) = some (nI c, (mkH (hs l s d tl) I' J')) ∧ rwg N c q I' ∧ rg I I' ∧ ∀ c, c ≠ 26 → J' c = J c) := by
  have hN := h.1.1
  have hpN := h.2.1
  obtain ⟨I1, v0, e1, h1, h2, h3⟩ := he_e (l := l) (s := s) (d := d) (tl := tl) (F := F) (J := J) h (by omega)
  have hss := sk_sk (N := N) (tx := tx) hpN
  have hle := h1.2.1
  have rg29 : ∀ (I0 : hI) (x : Int32), rg I0 (upI I0 29 pr x) := fun I0 x => ⟨fun c _ h _ => upI_ne h, fun f _ _ _ _ _ => by rw [upI_ne (by decide)]⟩
  have e0 : e145 F 26 (nI pr) (mkH (hs l s d tl) I J) = m145_0 F 26 (nI pr) (mkH (hs l s d tl) I J) := rfl
  have fig : ¬ (sk N tx p < N ∧ (97 ≤ tx (sk N tx p) ∧ tx (sk N tx p) ≤ 122)) → e137 F v0.toInt64 97 122 (mkH (hs l s d tl) I1 J) = some (nI 0, (mkH (hs l s d tl) I1 J)) → (∃ I' J' t q, turnc N tx p = .inr (t, q) ∧ e145 F 26 (nI pr) (mkH (hs l s d tl) I J) = some (nI 0, (mkH (hs l s d tl) (upI I' 29 pr (nI t)) J')) ∧ rq N tx q m T I' ∧ rg I I' ∧ ∀ c, c ≠ 26 → J' c = J c) ∨ (∃ I' J' c q, turnc N tx p = .inl (c, q) ∧ e145 F 26 (nI pr) (mkH (hs l s d tl) I J) = some (nI c, (mkH (hs l s d tl) I' J')) ∧ rwg N c q I' ∧ rg I I' ∧ ∀ c, c ≠ 26 → J' c = J c) := by
    intro hno e2
    have hfe : ∀ lo hi, figr N tx (sk N tx p) lo hi = figr N tx p lo hi := fun lo hi => by unfold figr; rw [hss]
    have htc : turnc N tx p = match figr N tx p 0 9 with
        | .inl e => .inl e
        | .inr (v, p') => if v = 2 ∨ v = 3 ∨ v = 4 ∨ v = 6 then .inr (v, p') else .inl (2, p' - 1) := by
      unfold turnc
      rw [if_neg hno]
      rfl
    rw [e0]
    unfold m145_0
    rw [rc26, Option.bind_some, e1, Option.bind_some, e2, Option.bind_some, if_pos (show mc1 .eq (nI 0) = true by decide), rc26, Option.bind_some, n_2, n_6]
    rcases rf_e (l := l) (s := s) (d := d) (tl := tl) (F := F) (J := J) h1 hF (lo := 2) (hi := 6) (by omega) (by omega) with ⟨I2, v, g1, g2, g7, g3, g4, g5, g6⟩ | ⟨I2, c, g1, g3, g4, g5⟩
    · rw [hss] at g1 g4 g7
      rw [hfe] at g1
      have hd : figr N tx p 0 9 = .inr (v, sk N tx p + 1) := by
        unfold figr at *
        split at g1
        · rename_i hy
          split at g1
          · have ea := (Prod.mk.inj (Sum.inr.inj g1)).1
            rw [if_pos hy, if_pos (by omega), ea]
          · cases g1
        · cases g1
      have hr : 2 ≤ v ∧ v ≤ 6 := by
        unfold figr at g1
        split at g1
        · split at g1
          · rename_i hx
            have ea := (Prod.mk.inj (Sum.inr.inj g1)).1
            rw [ea] at hx
            exact hx
          · cases g1
        · cases g1
      rw [hd] at htc
      rw [g3, Option.bind_some, if_neg (show ¬ mc1 .ne (nI 0) = true by decide), gi26_10, Option.bind_some, g5, n_5]
      by_cases h5 : v = 5
      · right
        rw [if_neg (show ¬ mc2 .ne (nI v) (nI 5) = true by rw [c_ne (by omega) (by omega)]; exact fun h => h h5), gi26_7, Option.bind_some, rc26, Option.bind_some, g4.2.2.1, n_1, pk_sub1, fa_e, Option.bind_some]
        refine ⟨_, J, 2, sk N tx p, ?_, rfl, fa_w (by omega) (by omega) hle, rg_tr h2 (rg_tr g6 (rg_up _ _ (by omega))), fun _ _ => rfl⟩
        rw [htc]
        dsimp only
        rw [if_neg (by omega), Nat.add_sub_cancel]
      · left
        rw [if_pos (show mc2 .ne (nI v) (nI 5) = true by rw [c_ne (by omega) (by omega)]; exact h5)]
        unfold m145_108
        rw [gr26_3, Option.bind_some, gi26_10, Option.bind_some, g5, wI29 hpr, Option.bind_some]
        refine ⟨I2, J, v, sk N tx p + 1, ?_, rfl, g4, rg_tr h2 g6, fun _ _ => rfl⟩
        rw [htc]
        dsimp only
        rw [if_pos (by omega)]
    · right
      rw [hss] at g1 g4
      rw [hfe] at g1
      have hc := g4.1
      have hc3 := g4.2.1
      rw [g3, Option.bind_some, if_pos (show mc1 .ne (nI c) = true by rw [d_ne (by omega)]; omega)]
      unfold m145_108
      rw [gr26_3, Option.bind_some, gi26_10, Option.bind_some, wI29 hpr, Option.bind_some]
      have hw' : rwg N c (sk N tx p) (upI I2 29 pr (I2 26 10)) := ⟨hc, hc3, hle, by rw [upI_ne (by decide)]; exact g4.2.2.2⟩
      refine ⟨_, J, c, sk N tx p, ?_, rfl, hw', rg_tr (rg_tr h2 g5) (rg29 _ _), fun _ _ => rfl⟩
      rw [htc]
      unfold figr at g1 ⊢
      split at g1
      · rename_i hy
        rw [if_pos hy, if_pos (by omega)]
        dsimp only
        split at g1
        · cases g1
        · rename_i hx
          have ea := (Prod.mk.inj (Sum.inl.inj g1)).1
          rw [if_neg (by omega), Nat.add_sub_cancel, ea]
      · rename_i hy
        have ea := (Prod.mk.inj (Sum.inl.inj g1)).1
        rw [if_neg hy, ea]
  rcases h3 with ⟨hlt, rfl⟩ | ⟨hlt, rfl⟩
  · obtain ⟨hb, hb2⟩ := h1.1.2.2 _ hlt
    rcases bw_k (F := F) (x := tx (sk N tx p)) (a := 97) (b := 122) (by omega) (by omega) (by omega) (mkH (hs l s d tl) I1 J) with ⟨e2, h4, h5⟩ | ⟨e2, h4⟩
    · rw [← l_97, ← l_122] at e2
      obtain ⟨I2, J2, e3, k1, k2, k3, k4, k5⟩ := rwd_e (l := l) (s := s) (d := d) (tl := tl) (F := F) (J := J) h1 hss hF
      obtain ⟨kk, c1, c2⟩ := cd_nev (F := F) (mkH (hs l s d tl) I2 J2)
      have hb := wcd_bd (wl N tx (sk N tx p)) (wl_ltr _ rfl) (a := 0) (by omega) (by omega)
      have hwn := wcd_nev (wl_ltr (N := N) (tx := tx) (p := sk N tx p) _ rfl)
      have htc : turnc N tx p = if wl N tx (sk N tx p) = w_nev then .inr (0, sk N tx p + 5) else .inl (1, sk N tx p) := by
        unfold turnc
        rw [if_pos ⟨hlt, h4, h5⟩]
      rw [e0]
      unfold m145_0
      rw [rc26, Option.bind_some, e1, Option.bind_some, e2, Option.bind_some, if_neg (show ¬ mc1 .eq (nI 1) = true by decide), rc26, Option.bind_some, e3, Option.bind_some, gl26_8, Option.bind_some, k3, c1, Option.bind_some, c2, Option.bind_some]
      by_cases hw : wl N tx (sk N tx p) = w_nev
      · left
        rw [if_pos (by rw [zJ_big hb.1 hb.2 (by omega) (by omega)]; exact hwn.mpr hw)]
        have hl5 : (wl N tx (sk N tx p)).length = 5 := by rw [hw]; rfl
        rw [hl5] at k2
        have hlen := wl_len (N := N) (tx := tx) (p := sk N tx p) _ rfl hle
        rw [gi26_9, Option.bind_some, k2, pi26_7, Option.bind_some, gr26_3, Option.bind_some, wI29 hpr, Option.bind_some]
        exact ⟨_, J2, 0, sk N tx p + 5, by rw [htc, if_pos hw], rfl, rq_p k1 (by omega), rg_tr h2 (rg_tr k4 (rg_up _ _ (by omega))), k5⟩
      · right
        rw [if_neg (by rw [zJ_big hb.1 hb.2 (by omega) (by omega)]; exact fun h => hw (hwn.mp h)), gi26_7, Option.bind_some, rc26, Option.bind_some, k1.2.2.1, n_1, fa_e, Option.bind_some]
        exact ⟨_, J2, 1, sk N tx p, by rw [htc, if_neg hw], rfl, fa_w (by omega) (by omega) hle, rg_tr h2 (rg_tr k4 (rg_up _ _ (by omega))), k5⟩
    · rw [← l_97, ← l_122] at e2
      exact fig (fun h => h4 h.2) e2
  · have e2 := bw_m (F := F) (a := 97) (b := 122) (by omega) (mkH (hs l s d tl) I1 J)
    rw [← l_97, ← l_122] at e2
    exact fig (fun h => hlt h.1) e2
/-- readPair, all but the clause's end -/
noncomputable def pairh (N : Nat) (tx : Nat → Nat) (m : Nat) (T : tT) (p : Nat) : (Nat × Nat) ⊕ (Nat × tT) :=
  match figr N tx p 0 (m - 1) with
  | .inl e => .inl e
  | .inr (i, p1) => match figr N tx p1 0 (m - 1) with
    | .inl e => .inl e
    | .inr (j, p2) => if i = j then .inl (2, p2 - 1) else if (T i j).isSome = true then .inl (3, p) else
      match turnc N tx p2 with
      | .inl e => .inl e
      | .inr (t, p3) => .inr (p3, tU T i j t)
theorem pairc_h (N : Nat) (tx : Nat → Nat) (m : Nat) (T : tT) (p : Nat) : pairc N tx m T p = match pairh N tx m T p with
    | .inl e => .inl e
    | .inr (p3, T') => match endc N tx p3 with
      | .inl e => .inl e
      | .inr p4 => .inr (p4, m, T') := by
  unfold pairc pairh
  cases figr N tx p 0 (m - 1) with
  | inl e => rfl
  | inr a =>
    dsimp only
    cases figr N tx a.2 0 (m - 1) with
    | inl e => rfl
    | inr b =>
      dsimp only
      split
      · rfl
      · split
        · rfl
        · cases turnc N tx b.2 with
          | inl e => rfl
          | inr c => rfl
theorem rpr_e (h : rq N tx p m T I) (hsk : sk N tx p = p) (hT : tok T) (hF : 300 ≤ F) : (∃ I' J' q T', pairh N tx m T p = .inr (q, T') ∧ e146 F 26 (nI m) (mkH (hs l s d tl) I J) = some (nI 0, (mkH (hs l s d tl) I' J')) ∧ rq N tx q m T' I' ∧ rg I I' ∧ ∀ c, c ≠ 26 → J' c = J c) ∨ (∃ I' J' c q, pairh N tx m T p = .inl (c, q) ∧ e146 F 26 (nI m) (mkH (hs l s d tl) I J) = some (nI c, (mkH (hs l s d tl) I' J')) ∧ rwg N c q I' ∧ rg I I' ∧ ∀ c, c ≠ 26 → J' c = J c) := by
  have hN := h.1.1
  have hpN := h.2.1
  have hm1 := h.2.2.2.2.1
  have hm5 := h.2.2.2.2.2.1
  have e0 : e146 F 26 (nI m) (mkH (hs l s d tl) I J) = m146_0 F 26 (nI m) (mkH (hs l s d tl) I J) := rfl
  rw [e0]
  unfold m146_0
  rw [gi26_7, Option.bind_some, rc26, Option.bind_some, h.2.2.1, n_0, n_1, pk_sub (by omega)]
  have wle : ∀ c : Nat, 1 ≤ c → c ≤ 3 → ¬ mc1 .le (nI c) = true := fun c h1 h3 => by rw [d_le (by omega)]; omega
  rcases rf_e (l := l) (s := s) (d := d) (tl := tl) (F := F) (J := J) h hF (lo := 0) (hi := m - 1) (by omega) (by omega) with ⟨I2, i, g1, g2, g7, g3, g4, g5, g6⟩ | ⟨I2, c, g1, g3, g4, g5⟩
  rotate_left
  · right
    rw [g3, Option.bind_some, gi26_10, Option.bind_some, if_neg (wle c g4.1 g4.2.1)]
    exact ⟨I2, J, c, _, by unfold pairh; rw [g1], rfl, g4, g5, fun _ _ => rfl⟩
  rw [g3, Option.bind_some, gi26_10, Option.bind_some, g5, if_pos (show mc1 .le (nI 0) = true by decide), rc26, Option.bind_some]
  have hl1 := g4.2.1
  have him : i < m := by
    have := g1
    unfold figr at this
    split at this
    · split at this
      · rename_i hx
        have ea := (Prod.mk.inj (Sum.inr.inj this)).1
        rw [ea] at hx
        omega
      · cases this
    · cases this
  rcases rf_e (l := l) (s := s) (d := d) (tl := tl) (F := F) (J := J) g4 hF (lo := 0) (hi := m - 1) (by omega) (by omega) with ⟨I3, j, k1, k2, k7, k3, k4, k5, k6⟩ | ⟨I3, c, k1, k3, k4, k5⟩
  rotate_left
  · right
    rw [k3, Option.bind_some, gi26_10, Option.bind_some, if_neg (wle c k4.1 k4.2.1)]
    exact ⟨I3, J, c, _, by unfold pairh; rw [g1]; dsimp only; rw [k1], rfl, k4, rg_tr g6 k5, fun _ _ => rfl⟩
  rw [k3, Option.bind_some, gi26_10, Option.bind_some, k5, if_pos (show mc1 .le (nI 0) = true by decide)]
  have hl2 := k4.2.1
  have hjm : j < m := by
    have := k1
    unfold figr at this
    split at this
    · split at this
      · rename_i hx
        have ea := (Prod.mk.inj (Sum.inr.inj this)).1
        rw [ea] at hx
        omega
      · cases this
    · cases this
  by_cases hij : i = j
  · right
    rw [if_neg (show ¬ mc2 .ne (nI i) (nI j) = true by rw [g_ne, hij]; exact fun h => h rfl), gi26_7, Option.bind_some, rc26, Option.bind_some, k4.2.2.1, n_2, pk_sub1, fa_e, Option.bind_some]
    refine ⟨_, J, 2, sk N tx (sk N tx p + 1), ?_, rfl, fa_w (by omega) (by omega) (by omega), rg_tr (rg_tr g6 k6) (rg_up _ _ (by omega)), fun _ _ => rfl⟩
    unfold pairh
    rw [g1]
    dsimp only
    rw [k1]
    dsimp only
    rw [if_pos hij, Nat.add_sub_cancel]
  rw [if_pos (show mc2 .ne (nI i) (nI j) = true by rw [c_ne (by omega) (by omega)]; exact hij)]
  have hpx : pix i j < 25 := by unfold pix; split <;> omega
  have ej : (if mc2 .ge (nI i) (nI j) = true then m146_90 F 26 (nI p) (5 * nI j + nI i) (mkH (hs l s d tl) I3 J) else m146_90 F 26 (nI p) (5 * nI i + nI j) (mkH (hs l s d tl) I3 J)) = m146_90 F 26 (nI p) (nI (pix i j)) (mkH (hs l s d tl) I3 J) := by
    unfold pix
    by_cases hlt : i < j
    · rw [if_neg (show ¬ mc2 .ge (nI i) (nI j) = true by rw [c_ge (by omega) (by omega)]; omega), if_pos hlt, n_5, pk_mul, nI_add]
    · rw [if_pos (show mc2 .ge (nI i) (nI j) = true by rw [c_ge (by omega) (by omega)]; omega), if_neg hlt, n_5, pk_mul, nI_add]
  rw [ej]
  have hfl : I3 31 (pix i j) = nI (if (T i j).isSome then 1 else 0) := by
    unfold pix
    by_cases hlt : i < j
    · rw [if_pos hlt]
      exact (k4.2.2.2.2.2.2.2 i j hlt (by omega)).1
    · rw [if_neg hlt, (hT i j).1]
      exact (k4.2.2.2.2.2.2.2 j i (by omega) (by omega)).1
  unfold m146_90
  rw [gr26_11, Option.bind_some, rZ31 hpx, Option.bind_some, hfl]
  by_cases hTs : (T i j).isSome = true
  · right
    rw [if_neg (show ¬ mc1 .eq (nI (if (T i j).isSome = true then 1 else 0)) = true by rw [if_pos hTs]; decide), rc26, Option.bind_some, n_3, fa_e, Option.bind_some]
    refine ⟨_, J, 3, p, ?_, rfl, fa_w (by omega) (by omega) hpN, rg_tr (rg_tr g6 k6) (rg_up _ _ (by omega)), fun _ _ => rfl⟩
    unfold pairh
    rw [g1]
    dsimp only
    rw [k1]
    dsimp only
    rw [if_neg hij, if_pos hTs]
  rw [if_pos (show mc1 .eq (nI (if (T i j).isSome = true then 1 else 0)) = true by rw [if_neg hTs]; decide), Option.bind_some, wZ31 hpx (Or.inr rfl), Option.bind_some, rc26, Option.bind_some]
  have hph : pairh N tx m T p = match turnc N tx (sk N tx (sk N tx p + 1) + 1) with
      | .inl e => .inl e
      | .inr (t, p3) => .inr (p3, tU T i j t) := by
    unfold pairh
    rw [g1]
    dsimp only
    rw [k1]
    dsimp only
    rw [if_neg hij, if_neg hTs]
  -- the flag stands: turns are read over a state that differs there
  have h31 : rq N tx (sk N tx (sk N tx p + 1) + 1) m (tV T i j) (upI I3 31 (pix i j) 1) := by
    obtain ⟨⟨a1, a2, a3⟩, a4, a5, a6, a8, a9, a10, a11⟩ := k4
    refine ⟨⟨a1, by rw [upI_ne (by decide), a2], fun i hi => by rw [upI_ne (by decide)]; exact a3 i hi⟩, a4, by rw [upI_ne (by decide), a5], by rw [upI_ne (by decide), a6], a8, a9, by rw [upI_ne (by decide), a10], fun a b hab hb => ?_⟩
    rw [upI_at, upI_ne (by decide)]
    by_cases h1 : (a = i ∧ b = j) ∨ (a = j ∧ b = i)
    · have e : 5 * a + b = pix i j := by
        unfold pix
        split <;> omega
      rw [tV_in h1, if_pos e]
      exact ⟨rfl, (a11 a b hab hb).2⟩
    · have e : ¬ 5 * a + b = pix i j := by
        unfold pix
        split <;> omega
      rw [tV_out h1, if_neg e]
      exact a11 a b hab hb
  have rg31 : rg I3 (upI I3 31 (pix i j) 1) := ⟨fun c _ _ h => upI_ne h, fun f _ _ _ _ _ => by rw [upI_ne (by decide)]⟩
  rcases rt_e (l := l) (s := s) (d := d) (tl := tl) (F := F) (J := J) h31 hF hpx with ⟨I4, J4, t, q, r1, r3, r4, r5, r6⟩ | ⟨I4, J4, c, q, r1, r3, r4, r5, r6⟩
  · left
    rw [r3, Option.bind_some]
    refine ⟨_, J4, q, tU T i j t, by rw [hph, r1], rfl, ?_, rg_tr (rg_tr (rg_tr g6 k6) (rg_tr rg31 r5)) ⟨fun c _ h _ => upI_ne h, fun f _ _ _ _ _ => by rw [upI_ne (by decide)]⟩, r6⟩
    obtain ⟨⟨a1, a2, a3⟩, a4, a5, a6, a8, a9, a10, a11⟩ := r4
    refine ⟨⟨a1, by rw [upI_ne (by decide), a2], fun i hi => by rw [upI_ne (by decide)]; exact a3 i hi⟩, a4, by rw [upI_ne (by decide), a5], by rw [upI_ne (by decide), a6], a8, a9, by rw [upI_ne (by decide), a10], fun a b hab hb => ?_⟩
    have := a11 a b hab hb
    rw [upI_ne (by decide), upI_at]
    by_cases h1 : (a = i ∧ b = j) ∨ (a = j ∧ b = i)
    · have e : 5 * a + b = pix i j := by
        unfold pix
        split <;> omega
      rw [tV_in h1] at this
      rw [tU_in h1, if_pos e]
      exact ⟨this.1, rfl⟩
    · have e : ¬ 5 * a + b = pix i j := by
        unfold pix
        split <;> omega
      rw [tV_out h1] at this
      rw [tU_out h1, if_neg e]
      exact this
  · right
    rw [r3, Option.bind_some]
    exact ⟨I4, J4, c, q, by rw [hph, r1], rfl, r4, rg_tr (rg_tr g6 k6) (rg_tr rg31 r5), r6⟩
/-- readClause -/
theorem rcl_e (h : rq N tx p m T I) (hsk : sk N tx p = p) (hlt : p < N) (hT : tok T) (hF : 300 ≤ F) (first : Bool) : (∃ I' J' q m' T', clf N tx first m T p = .inr (q, m', T') ∧ e147 F 26 (nI (if first = true then 1 else 0)) (mkH (hs l s d tl) I J) = some (nI 0, (mkH (hs l s d tl) I' J')) ∧ rq N tx q m' T' I' ∧ rg I I' ∧ p < q ∧ ∀ c, c ≠ 26 → J' c = J c) ∨ (∃ I' J' c q, clf N tx first m T p = .inl (c, q) ∧ e147 F 26 (nI (if first = true then 1 else 0)) (mkH (hs l s d tl) I J) = some (nI c, (mkH (hs l s d tl) I' J')) ∧ rwg N c q I' ∧ rg I I' ∧ ∀ c, c ≠ 26 → J' c = J c) := by
  have hN := h.1.1
  have hpN := h.2.1
  obtain ⟨I1, v0, e1, h1, h2, h3⟩ := he_e (l := l) (s := s) (d := d) (tl := tl) (F := F) (J := J) h (by omega)
  rw [hsk] at h1 h3
  have hv0 : v0 = nI (tx p) := by
    rcases h3 with h3 | h3
    · exact h3.2
    · exact absurd hlt h3.1
  subst hv0
  obtain ⟨hb, hb2⟩ := h1.1.2.2 _ hlt
  have e0 : e147 F 26 (nI (if first = true then 1 else 0)) (mkH (hs l s d tl) I J) = m147_0 F 26 (nI (if first = true then 1 else 0)) (mkH (hs l s d tl) I J) := rfl
  rw [e0]
  unfold m147_0
  rw [rc26, Option.bind_some, e1, Option.bind_some]
  -- the end of a clause
  have fin : ∀ {I2 : hI} {J2 : hJ} {q m2 : Nat} {T2 : tT}, rq N tx q m2 T2 I2 → rg I I2 → (∀ c, c ≠ 26 → J2 c = J c) → p < q → (clf N tx first m T p = match endc N tx q with
      | .inl e => .inl e
      | .inr p4 => .inr (p4, m2, T2)) → (∃ I' J' q m' T', clf N tx first m T p = .inr (q, m', T') ∧ m147_115 F 26 (nI 0) (mkH (hs l s d tl) I2 J2) = some (nI 0, (mkH (hs l s d tl) I' J')) ∧ rq N tx q m' T' I' ∧ rg I I' ∧ p < q ∧ ∀ c, c ≠ 26 → J' c = J c) ∨ (∃ I' J' c q, clf N tx first m T p = .inl (c, q) ∧ m147_115 F 26 (nI 0) (mkH (hs l s d tl) I2 J2) = some (nI c, (mkH (hs l s d tl) I' J')) ∧ rwg N c q I' ∧ rg I I' ∧ ∀ c, c ≠ 26 → J' c = J c) := by
    intro I2 J2 q m2 T2 k1 k2 k3 k4 k5
    obtain ⟨I3, v3, e3, g1, g2, g3⟩ := he_e (l := l) (s := s) (d := d) (tl := tl) (F := F) (J := J2) k1 (by omega)
    have hq := sk_le (tx := tx) k1.2.1
    unfold m147_115
    rw [if_pos (show mc1 .le (nI 0) = true by decide), rc26, Option.bind_some, e3, Option.bind_some, n_59]
    have bad : ¬ mc2 .eq v3 (nI 59) = true → ¬ (sk N tx q < N ∧ tx (sk N tx q) = 59) → (∃ I' J' q m' T', clf N tx first m T p = .inr (q, m', T') ∧ (if mc2 .eq v3 (nI 59) = true then (gfi 11 7 (mkH (hs l s d tl) I3 J2) 26).bind fun x5 => (pfv 11 7 (mkH (hs l s d tl) I3 J2) 26 (.int (x5 + 1))).bind fun hp6 => some (0, hp6) else (gfi 11 7 (mkH (hs l s d tl) I3 J2) 26).bind fun x7 => (rcv 11 (mkH (hs l s d tl) I3 J2) 26).bind fun u9 => (e141 F 26 1 x7 (mkH (hs l s d tl) I3 J2)).bind fun q8 => some (q8.1, q8.2)) = some (nI 0, (mkH (hs l s d tl) I' J')) ∧ rq N tx q m' T' I' ∧ rg I I' ∧ p < q ∧ ∀ c, c ≠ 26 → J' c = J c) ∨ (∃ I' J' c q, clf N tx first m T p = .inl (c, q) ∧ (if mc2 .eq v3 (nI 59) = true then (gfi 11 7 (mkH (hs l s d tl) I3 J2) 26).bind fun x5 => (pfv 11 7 (mkH (hs l s d tl) I3 J2) 26 (.int (x5 + 1))).bind fun hp6 => some (0, hp6) else (gfi 11 7 (mkH (hs l s d tl) I3 J2) 26).bind fun x7 => (rcv 11 (mkH (hs l s d tl) I3 J2) 26).bind fun u9 => (e141 F 26 1 x7 (mkH (hs l s d tl) I3 J2)).bind fun q8 => some (q8.1, q8.2)) = some (nI c, (mkH (hs l s d tl) I' J')) ∧ rwg N c q I' ∧ rg I I' ∧ ∀ c, c ≠ 26 → J' c = J c) := by
      intro hv hno
      right
      rw [if_neg hv, gi26_7, Option.bind_some, rc26, Option.bind_some, g1.2.2.1, n_1, fa_e, Option.bind_some]
      refine ⟨_, J2, 1, sk N tx q, ?_, rfl, fa_w (by omega) (by omega) hq.2.1, rg_tr k2 (rg_tr g2 (rg_up _ _ (by omega))), k3⟩
      rw [k5]
      unfold endc
      rw [if_neg hno]
    rcases g3 with ⟨hlq, rfl⟩ | ⟨hlq, rfl⟩
    · obtain ⟨hb3, hb4⟩ := g1.1.2.2 _ hlq
      by_cases h59 : tx (sk N tx q) = 59
      · left
        rw [if_pos (show mc2 .eq (nI (tx (sk N tx q))) (nI 59) = true by rw [h59]; decide), gi26_7, Option.bind_some, g1.2.2.1, n_1, nI_add, pi26_7, Option.bind_some]
        refine ⟨_, J2, sk N tx q + 1, m2, T2, ?_, rfl, rq_p g1 (by omega), rg_tr k2 (rg_tr g2 (rg_up _ _ (by omega))), by omega, k3⟩
        rw [k5]
        unfold endc
        rw [if_pos ⟨hlq, h59⟩]
      · exact bad (by rw [c_eq (by omega) (by omega)]; exact h59) (fun h => h59 h.2)
    · exact bad (by rw [g_eq]; exact gI_nI (by omega) (by omega) (by omega)) (fun h => hlq h.1)
  have wle : ∀ {c : Nat}, 1 ≤ c → c ≤ 3 → ∀ {K : List mE}, m147_115 F 26 (nI c) K = some (nI c, K) := by
    intro c c1 c3 K
    unfold m147_115
    rw [if_neg (by rw [d_le (by omega)]; omega)]
  rcases bw_k (F := F) (x := tx p) (a := 97) (b := 122) (by omega) (by omega) (by omega) (mkH (hs l s d tl) I1 J) with ⟨e2, h4, h5⟩ | ⟨e2, h4⟩
  · rw [← l_97, ← l_122] at e2
    have hcl : clf N tx first m T p = mirc N tx first T p := by
      unfold clf
      rw [if_pos ⟨h4, h5⟩]
    obtain ⟨I2, J2, e3, k1, k2, k3, k4, k5⟩ := rwd_e (l := l) (s := s) (d := d) (tl := tl) (F := F) (J := J) h1 hsk hF
    rw [e2, Option.bind_some, if_neg (show ¬ mc1 .eq (nI 1) = true by decide), rc26, Option.bind_some, e3, Option.bind_some]
    have bad : clf N tx first m T p = .inl (1, p) → (∃ I' J' q m' T', clf N tx first m T p = .inr (q, m', T') ∧ m147_59 F 26 (mkH (hs l s d tl) I2 J2) = some (nI 0, (mkH (hs l s d tl) I' J')) ∧ rq N tx q m' T' I' ∧ rg I I' ∧ p < q ∧ ∀ c, c ≠ 26 → J' c = J c) ∨ (∃ I' J' c q, clf N tx first m T p = .inl (c, q) ∧ m147_59 F 26 (mkH (hs l s d tl) I2 J2) = some (nI c, (mkH (hs l s d tl) I' J')) ∧ rwg N c q I' ∧ rg I I' ∧ ∀ c, c ≠ 26 → J' c = J c) := by
      intro hc
      right
      unfold m147_59
      rw [gi26_7, Option.bind_some, rc26, Option.bind_some, k1.2.2.1, n_1, fa_e, Option.bind_some]
      exact ⟨_, J2, 1, p, hc, rfl, fa_w (by omega) (by omega) hpN, rg_tr h2 (rg_tr k4 (rg_up _ _ (by omega))), k5⟩
    cases first with
    | false =>
      rw [if_pos (show mc1 .eq (nI (if false = true then 1 else 0)) = true by decide)]
      exact bad (by rw [hcl]; unfold mirc; rw [if_neg (fun h => by cases h.2)])
    | true =>
      rw [if_neg (show ¬ mc1 .eq (nI (if true = true then 1 else 0)) = true by decide)]
      obtain ⟨kk, c1, c2⟩ := cd_mir (F := F) (mkH (hs l s d tl) I2 J2)
      have hbd := wcd_bd (wl N tx p) (wl_ltr _ rfl) (a := 0) (by omega) (by omega)
      have hwn := wcd_mir (wl_ltr (N := N) (tx := tx) (p := p) _ rfl)
      rw [gl26_8, Option.bind_some, k3, c1, Option.bind_some, c2, Option.bind_some]
      by_cases hw : wl N tx p = w_mir
      · rw [if_pos (by rw [zJ_big hbd.1 hbd.2 (by omega) (by omega)]; exact hwn.mpr hw)]
        have hl7 : (wl N tx p).length = 7 := by rw [hw]; rfl
        rw [hl7] at k2
        have hlen := wl_len (N := N) (tx := tx) (p := p) _ rfl hpN
        have hmc : clf N tx true m T p = match figr N tx (p + 7) 1 5 with
            | .inl e => .inl e
            | .inr (v, p1) => match endc N tx p1 with
              | .inl e => .inl e
              | .inr p2 => .inr (p2, v, T) := by
          rw [hcl]
          unfold mirc
          rw [if_pos ⟨hw, rfl⟩]
          rfl
        rw [gi26_9, Option.bind_some, k2, pi26_7, Option.bind_some, rc26, Option.bind_some, n_1, n_5]
        rcases rf_e (l := l) (s := s) (d := d) (tl := tl) (F := F) (J := J2) (rq_p k1 (q := p + 7) (by omega)) hF (lo := 1) (hi := 5) (by omega) (by omega) with ⟨I3, v, g1, g2, g7, g3, g4, g5, g6⟩ | ⟨I3, c, g1, g3, g4, g5⟩
        · have hv : 1 ≤ v ∧ v ≤ 5 := by
            have := g1
            unfold figr at this
            split at this
            · split at this
              · rename_i hx
                have ea := (Prod.mk.inj (Sum.inr.inj this)).1
                rw [ea] at hx
                exact hx
              · cases this
            · cases this
          have hlt2 := figr_lt (by omega) g1
          rw [g3, Option.bind_some, if_neg (show ¬ mc1 .ne (nI 0) = true by decide), gi26_10, Option.bind_some, g5]
          unfold m147_100
          rw [pi26_12, Option.bind_some]
          have g4' : rq N tx (sk N tx (p + 7) + 1) v T (upI I3 26 12 (nI v)) := by
            obtain ⟨⟨a1, a2, a3⟩, a4, a5, a6, a8, a9, a10, a11⟩ := g4
            refine ⟨⟨a1, by rw [upI_at, if_neg (by decide), a2], fun i hi => by rw [upI_ne (by decide)]; exact a3 i hi⟩, a4, by rw [upI_at, if_neg (by decide), a5], by rw [upI_at, if_neg (by decide), a6], hv.1, hv.2, by rw [upI_at, if_pos rfl], fun i j hi hj => ?_⟩
            rw [upI_ne (by decide), upI_ne (by decide)]
            exact a11 i j hi hj
          exact fin g4' (rg_tr (rg_tr h2 k4) (rg_tr (rg_tr (rg_up _ _ (by omega)) g6) (rg_up _ _ (by omega)))) k5 (by omega) (by rw [hmc, g1])
        · right
          rw [g3, Option.bind_some, if_pos (show mc1 .ne (nI c) = true by have a1 := g4.1; have a2 := g4.2.1; rw [d_ne (by omega)]; omega), gi26_12, Option.bind_some]
          unfold m147_100
          rw [pi26_12, Option.bind_some, wle g4.1 g4.2.1]
          refine ⟨_, J2, c, _, by rw [hmc, g1], rfl, ⟨g4.1, g4.2.1, g4.2.2.1, by rw [upI_at, if_neg (by decide)]; exact g4.2.2.2⟩, rg_tr (rg_tr h2 k4) (rg_tr (rg_tr (rg_up _ _ (by omega)) g5) (rg_up _ _ (by omega))), k5⟩
      · rw [if_neg (by rw [zJ_big hbd.1 hbd.2 (by omega) (by omega)]; exact fun h => hw (hwn.mp h))]
        exact bad (by rw [hcl]; unfold mirc; rw [if_neg (fun h => hw h.1)])
  · rw [← l_97, ← l_122] at e2
    have hcl : clf N tx first m T p = pairc N tx m T p := by
      unfold clf
      rw [if_neg h4]
    rw [e2, Option.bind_some, if_pos (show mc1 .eq (nI 0) = true by decide), gi26_12, Option.bind_some, h1.2.2.2.2.2.2.1, rc26, Option.bind_some]
    rcases rpr_e (l := l) (s := s) (d := d) (tl := tl) (F := F) (J := J) h1 hsk hT hF with ⟨I2, J2, q, T', g1, g3, g4, g5, g6⟩ | ⟨I2, J2, c, q, g1, g3, g4, g5, g6⟩
    · rw [g3, Option.bind_some]
      have hpq : p < q := by
        have := g1
        unfold pairh at this
        split at this
        · cases this
        · rename_i i p1 hf1
          split at this
          · cases this
          · rename_i j p2 hf2
            split at this
            · cases this
            · split at this
              · cases this
              · split at this
                · cases this
                · rename_i t p3 ht
                  have ea := (Prod.mk.inj (Sum.inr.inj this)).1
                  have a1 := figr_lt hpN hf1
                  have a2 := figr_lt a1.2 hf2
                  have a3 := tt_lt a2.2 ht
                  omega
      exact fin g4 (rg_tr h2 g5) g6 hpq (by rw [hcl, pairc_h, g1])
    · right
      rw [g3, Option.bind_some, wle g4.1 g4.2.1]
      exact ⟨I2, J2, c, q, by rw [hcl, pairc_h, g1], rfl, g4, rg_tr h2 g5, g6⟩
end S
