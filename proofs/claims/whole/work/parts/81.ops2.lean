/-! Calls of both: elements kept, order, cosets, orders. -/
section S
variable {l s d : Value} {tl : List hQ} {F : Nat} {I : hI} {J : hJ} {n : Nat} {T : tT} {els : List (List Nat)} {x : List Nat} {N : Nat} {tx : Nat → Nat} {fl : Int32}
theorem stc_w {I' : hI} {J' : hJ} {els' : List (List Nat)} (h : stc n T els x N tx fl I J) (hi : ∀ c, c = 0 ∨ c = 1 ∨ c = 2 ∨ c = 3 ∨ c = 4 ∨ c = 5 ∨ c = 25 → I' c = I c) (hk : kp n (gA T) els' I' J') : stc n T els' x N tx fl I' J' := by
  obtain ⟨c1, c2, c3, c4, c5, c6, c7⟩ := h
  refine ⟨cl_fr c1 (hi 1 (by omega)) (hi 3 (by omega)), fun i j a b => by rw [hi 2 (by omega)]; exact c2 i j a b, hk, by rw [hi 0 (by omega)]; exact c4, by rw [hi 25 (by omega)]; exact c5, ⟨c6.1, by rw [hi 4 (by omega)]; exact c6.2.1, fun i a => by rw [hi 5 (by omega)]; exact c6.2.2 i a⟩, by rw [hi 4 (by omega)]; exact c7⟩
/-- an element is kept by both -/
theorem kcm {ex em : List mE → Option (Int32 × List mE)} {R : Int32 → List (List Nat) → Prop} (h : st n T els x N tx fl I J) (hx : Tr (hs l s d tl) (ex (mkH (hs l s d tl) I J)) (fun v I' J' => ∃ els', R v els' ∧ kp n (gA T) els' I' J' ∧ fkI I I' ∧ fkJ J J')) (hm : ∀ I1 J1, str n T els x N tx fl I1 → Tr (hs l s d tl) (em (mkH (hs l s d tl) I1 J1)) (fun v I' J' => ∃ els', R v els' ∧ km n (gA T) els' I' ∧ rfr I1 I' J1 J')) (hu : ∀ v v' e e', R v e → R v' e' → v = v' ∧ e = e') (he : ∀ v e, R v e → ∃ r, e = els ++ r) : ok2 (hs l s d tl) ex em I J (fun I' J' => ∃ r, st n T (els ++ r) x N tx fl I' J' ∧ opf I I' J J') := by
  obtain ⟨v, I1, J1, e1, els1, k1, k2, k3, k4⟩ := hx
  have hcf : cfr I I1 J J1 := fun c hc => ⟨k3 c (by omega) (by omega) (by omega) (by omega) (by omega), k4 c (by omega) (by omega) (by omega) (by omega)⟩
  have hs1 := str_c h.2.2 hcf
  obtain ⟨v2, I2, J2, e2, els2, m1, m2, m3⟩ := hm I1 J1 hs1
  obtain ⟨u1, u2⟩ := hu v v2 els1 els2 k1 m1
  subst u1
  subst u2
  obtain ⟨r, hr⟩ := he v els1 k1
  refine ⟨v, I1, J1, I2, J2, e1, e2, r, ?_, opf_tr (cfr_o hcf) (rfr_o m3)⟩
  rw [← hr]
  exact ⟨h.1, stc_r (stc_w h.2.1 (fun c hc => k3 c (by omega) (by omega) (by omega) (by omega) (by omega)) k2) (rfr_c m3), str_r hs1 m3 m2⟩
/-- a call of both that only tells -/
theorem scm {α : Type} {ex em : List mE → Option (α × List mE)} {R : α → Prop} (h : st n T els x N tx fl I J) (hx : Tr (hs l s d tl) (ex (mkH (hs l s d tl) I J)) (fun v I' J' => R v ∧ (∀ c, c ≠ 17 → I' c = I c) ∧ (∀ c, c ≠ 15 → c ≠ 16 → c ≠ 20 → c ≠ 21 → J' c = J c))) (hm : ∀ I1 J1, str n T els x N tx fl I1 → Tr (hs l s d tl) (em (mkH (hs l s d tl) I1 J1)) (fun v I' J' => R v ∧ rfr I1 I' J1 J' ∧ km n (gA T) els I')) (hu : ∀ v v', R v → R v' → v = v') : ok2 (hs l s d tl) ex em I J (fun I' J' => st n T els x N tx fl I' J' ∧ opf I I' J J') := by
  obtain ⟨v, I1, J1, e1, k1, k3, k4⟩ := hx
  have hcf : cfr I I1 J J1 := fun c hc => ⟨k3 c (by omega), k4 c (by omega) (by omega) (by omega) (by omega)⟩
  have hs1 := str_c h.2.2 hcf
  obtain ⟨v2, I2, J2, e2, m1, m2, m3⟩ := hm I1 J1 hs1
  have u1 := hu v v2 k1 m1
  subst u1
  refine ⟨v, I1, J1, I2, J2, e1, e2, ⟨h.1, stc_r (stc_w h.2.1 (fun c hc => k3 c (by omega)) ?_) (rfr_c m2), str_r hs1 m2 m3⟩, opf_tr (cfr_o hcf) (rfr_o m2)⟩
  exact kp_fr h.2.1.2.2.1 (k3 8 (by decide)) (k3 9 (by decide)) (k3 10 (by decide)) (k4 11 (by decide) (by decide) (by decide) (by decide)) (k4 12 (by decide) (by decide) (by decide) (by decide))
/-- both refuse -/
theorem rcm {α : Type} {ex em : List mE → Option (α × List mE)} (h : st n T els x N tx fl I J) (v : α) (h1 : ex (mkH (hs l s d tl) I J) = some (v, (mkH (hs l s d tl) I J))) (h2 : em (mkH (hs l s d tl) I J) = some (v, (mkH (hs l s d tl) I J))) : ok2 (hs l s d tl) ex em I J (fun I' J' => st n T els x N tx fl I' J' ∧ opf I I' J J') := ok2_s v h1 h2 ⟨h, opf_rf I J⟩
theorem rcm' {α : Type} {ex em : List mE → Option (α × List mE)} (h : st n T els x N tx fl I J) (v : α) (h1 : ex (mkH (hs l s d tl) I J) = some (v, (mkH (hs l s d tl) I J))) (h2 : em (mkH (hs l s d tl) I J) = some (v, (mkH (hs l s d tl) I J))) : ok2 (hs l s d tl) ex em I J (fun I' J' => ∃ r, st n T (els ++ r) x N tx fl I' J' ∧ opf I I' J J') := ok2_s v h1 h2 ⟨[], by rw [List.append_nil]; exact h, opf_rf I J⟩
theorem kpx_ext {A : Nat → Nat → Int} {u : List Nat} {v : Int32} {e : List (List Nat)} (h : kpx n A els u v e) : ∃ r, e = els ++ r := by
  obtain ⟨y, -, -, h⟩ := h
  rcases h with ⟨_, _, _, _, h⟩ | ⟨_, _, _, h⟩ | ⟨_, _, _, h⟩
  · exact ⟨[], by rw [h, List.append_nil]⟩
  · exact ⟨[y], h⟩
  · exact ⟨[], by rw [h, List.append_nil]⟩
theorem tms_ext {A : Nat → Nat → Int} {u w : List Nat} {v : Int32} {e : List (List Nat)} (h : tms n A els u w v e) : ∃ r, e = els ++ r := by
  rcases h with ⟨_, _, h⟩ | ⟨_, h⟩
  · exact ⟨[], by rw [h, List.append_nil]⟩
  · exact kpx_ext h
/-- times -/
theorem op12 (h : st n T els x N tx fl I J) (hF : 300 ≤ F) (a b : Int32) : ok2 (hs l s d tl) (e117 F 0 a b) (e172 F 26 a b) I J (fun I' J' => ∃ r, st n T (els ++ r) x N tx fl I' J' ∧ opf I I' J J') := by
  have hc := h.2.1.1
  have hk := h.2.1.2.2.1
  have hm := h.2.2.2.2.1
  have e1 : ∀ hp, e117 F 0 a b hp = m117_0 F 0 a b hp := fun _ => rfl
  have e2 : ∀ hp, e172 F 26 a b hp = m172_0 F 26 a b hp := fun _ => rfl
  rcases el_c els a with ⟨i, u, hi, rfl⟩ | ha
  · rcases el_c els b with ⟨j, y, hj, rfl⟩ | hb
    · refine kcm (R := fun v e => tms n (gA T) els u y v e) h ?_ (fun I1 J1 hs => tmr_e hs.1 hs.2.2.1 hF hi hj) (fun v v' e e' h1 h2 => tms_un hc.1 h1 h2) (fun v e he => tms_ext he)
      rw [e1]
      unfold m117_0
      rw [gr0_2, Option.bind_some, rc8, Option.bind_some, eh1 hk hi, Option.bind_some, if_neg y1, gr0_2, Option.bind_some, rc8, Option.bind_some, eh1 hk hj, Option.bind_some, if_pos z1, gr0_3, Option.bind_some, rc14, Option.bind_some]
      exact Tr_b (pr_e hc hk (by omega) hi hj) (fun v I' J' hh => Tr_ret hh)
    · refine rcm' h (-1001) ?_ ?_
      · rw [e1]; unfold m117_0 m117_22
        rw [gr0_2, Option.bind_some, rc8, Option.bind_some, eh1 hk hi, Option.bind_some, if_neg y1, gr0_2, Option.bind_some, rc8, Option.bind_some, eh0 hk hb, Option.bind_some, if_neg z0]
      · rw [e2]; unfold m172_0 m172_16
        rw [rc26, Option.bind_some, ie1 hm hi, Option.bind_some, if_neg y1, rc26, Option.bind_some, ie0 hm hb, Option.bind_some, if_neg z0]
  · refine rcm' h (-1001) ?_ ?_
    · rw [e1]; unfold m117_0 m117_22
      rw [gr0_2, Option.bind_some, rc8, Option.bind_some, eh0 hk ha, Option.bind_some, if_pos y0]
    · rw [e2]; unfold m172_0 m172_16
      rw [rc26, Option.bind_some, ie0 hm ha, Option.bind_some, if_pos y0]
/-- back -/
theorem op13 (h : st n T els x N tx fl I J) (hF : 300 ≤ F) (a : Int32) : ok2 (hs l s d tl) (e118 F 0 a) (e173 F 26 a) I J (fun I' J' => ∃ r, st n T (els ++ r) x N tx fl I' J' ∧ opf I I' J J') := by
  have hc := h.2.1.1
  have hk := h.2.1.2.2.1
  have hm := h.2.2.2.2.1
  have e1 : ∀ hp, e118 F 0 a hp = m118_0 F 0 a hp := fun _ => rfl
  have e2 : ∀ hp, e173 F 26 a hp = m173_0 F 26 a hp := fun _ => rfl
  rcases el_c els a with ⟨i, y, hi, rfl⟩ | ha
  · refine kcm (R := fun v e => kpx n (gA T) els y.reverse v e) h ?_ (fun I1 J1 hs => bkr_e hs.1 hs.2.2.1 hF hi) (fun v v' e e' h1 h2 => kpx_un hc.1 h1 h2) (fun v e he => kpx_ext he)
    rw [e1]
    unfold m118_0
    rw [gr0_2, Option.bind_some, rc8, Option.bind_some, eh1 hk hi, Option.bind_some, if_pos z1, gr0_3, Option.bind_some, rc14, Option.bind_some]
    exact Tr_b (bk_e hc hk (by omega) hi) (fun v I' J' hh => Tr_ret hh)
  · refine rcm' h (-1001) ?_ ?_
    · rw [e1]; unfold m118_0
      rw [gr0_2, Option.bind_some, rc8, Option.bind_some, eh0 hk ha, Option.bind_some, if_neg z0]
    · rw [e2]; unfold m173_0
      rw [rc26, Option.bind_some, ie0 hm ha, Option.bind_some, if_neg z0]
/-- below -/
theorem op14 (h : st n T els x N tx fl I J) (hF : 300 ≤ F) (a b : Int32) : ok2 (hs l s d tl) (e119 F 0 a b) (e175 F 26 a b) I J (fun I' J' => st n T els x N tx fl I' J' ∧ opf I I' J J') := by
  have hc := h.2.1.1
  have hk := h.2.1.2.2.1
  have hm := h.2.2.2.2.1
  have e1 : ∀ hp, e119 F 0 a b hp = m119_0 F 0 a b hp := fun _ => rfl
  have e2 : ∀ hp, e175 F 26 a b hp = m175_0 F 26 a b hp := fun _ => rfl
  rcases el_c els a with ⟨i, u, hi, rfl⟩ | ha
  · rcases el_c els b with ⟨j, y, hj, rfl⟩ | hb
    · refine scm (R := fun v => (v = nI 1 ∧ sbw n (gA T) u y) ∨ (v = nI 0 ∧ ¬ sbw n (gA T) u y)) h ?_ (fun I1 J1 hs => Tr_mo (bwr_e hs.1 hs.2.2.1 hF hi hj) (fun v I' J' hh => ⟨hh.1, hh.2.2, km_r (I' := I') (J' := J') hs.2.2.1 hh.2.1⟩)) ?_
      · rw [e1]
        unfold m119_0
        rw [gr0_2, Option.bind_some, rc8, Option.bind_some, eh1 hk hi, Option.bind_some, if_neg y1, gr0_2, Option.bind_some, rc8, Option.bind_some, eh1 hk hj, Option.bind_some, if_pos z1, gr0_3, Option.bind_some, rc14, Option.bind_some]
        refine Tr_b (st_e hc hk (by omega) hi hj) (fun v I' J' hh => ?_)
        unfold m119_43
        dsimp only
        rcases hh.1 with ⟨rfl, hb⟩ | ⟨rfl, hb⟩
        · rw [if_neg y1]
          exact Tr_ret ⟨Or.inl ⟨rfl, hb⟩, fun c _ => by rw [hh.2.1], fun c c1 _ _ _ => hh.2.2 c c1⟩
        · rw [if_pos y0]
          exact Tr_ret ⟨Or.inr ⟨rfl, hb⟩, fun c _ => by rw [hh.2.1], fun c c1 _ _ _ => hh.2.2 c c1⟩
      · rintro v v' (⟨rfl, h1⟩ | ⟨rfl, h1⟩) (⟨rfl, h2⟩ | ⟨rfl, h2⟩)
        · rfl
        · exact absurd h1 h2
        · exact absurd h2 h1
        · rfl
    · refine rcm h (-1001) ?_ ?_
      · rw [e1]; unfold m119_0 m119_22
        rw [gr0_2, Option.bind_some, rc8, Option.bind_some, eh1 hk hi, Option.bind_some, if_neg y1, gr0_2, Option.bind_some, rc8, Option.bind_some, eh0 hk hb, Option.bind_some, if_neg z0]
      · rw [e2]; unfold m175_0 m175_16
        rw [rc26, Option.bind_some, ie1 hm hi, Option.bind_some, if_neg y1, rc26, Option.bind_some, ie0 hm hb, Option.bind_some, if_neg z0]
  · refine rcm h (-1001) ?_ ?_
    · rw [e1]; unfold m119_0 m119_22
      rw [gr0_2, Option.bind_some, rc8, Option.bind_some, eh0 hk ha, Option.bind_some, if_pos y0]
    · rw [e2]; unfold m175_0 m175_16
      rw [rc26, Option.bind_some, ie0 hm ha, Option.bind_some, if_pos y0]
/-- covers -/
theorem op15 (h : st n T els x N tx fl I J) (hF : 300 ≤ F) (a : Int32) : ok2 (hs l s d tl) (e120 F 0 a) (e179 F 26 a) I J (fun I' J' => st n T els x N tx fl I' J' ∧ opf I I' J J') := by
  have hc := h.2.1.1
  have hk := h.2.1.2.2.1
  have hm := h.2.2.2.2.1
  have e1 : ∀ hp, e120 F 0 a hp = m120_0 F 0 a hp := fun _ => rfl
  have e2 : ∀ hp, e179 F 26 a hp = m179_0 F 26 a hp := fun _ => rfl
  rcases el_c els a with ⟨i, y, hi, rfl⟩ | ha
  · refine scm (R := fun v => v = nI (cvn n (gA T) y y.length)) h ?_ (fun I1 J1 hs => Tr_mo (cvr_e hs.1 hs.2.2.1 hF hi) (fun v I' J' hh => ⟨hh.1, hh.2.2, km_r (I' := I') (J' := J') hs.2.2.1 hh.2.1⟩)) (fun v v' h1 h2 => h1.trans h2.symm)
    rw [e1]
    unfold m120_0
    rw [gr0_2, Option.bind_some, rc8, Option.bind_some, eh1 hk hi, Option.bind_some, if_pos z1, gr0_3, Option.bind_some, rc14, Option.bind_some]
    exact Tr_b (cc_e hc hk (by omega) hi) (fun v I' J' hh => Tr_ret ⟨hh.1, fun c _ => by rw [hh.2.1], fun c c1 c2 _ _ => hh.2.2 c c1 c2⟩)
  · refine rcm h (-1001) ?_ ?_
    · rw [e1]; unfold m120_0
      rw [gr0_2, Option.bind_some, rc8, Option.bind_some, eh0 hk ha, Option.bind_some, if_neg z0]
    · rw [e2]; unfold m179_0
      rw [rc26, Option.bind_some, ie0 hm ha, Option.bind_some, if_neg z0]
/-- order -/
theorem op23 (h : st n T els x N tx fl I J) (hF : 300 ≤ F) (a : Int32) : ok2 (hs l s d tl) (e129 F 0 a) (e194 F 26 a) I J (fun I' J' => st n T els x N tx fl I' J' ∧ opf I I' J J') := by
  have hc := h.2.1.1
  have hk := h.2.1.2.2.1
  have hm := h.2.2.2.2.1
  have e1 : ∀ hp, e129 F 0 a hp = m129_0 F 0 a hp := fun _ => rfl
  have e2 : ∀ hp, e194 F 26 a hp = m194_0 F 26 a hp := fun _ => rfl
  rcases el_c els a with ⟨i, y, hi, rfl⟩ | ha
  · have kc := kp_c hk hi
    have mc := km_c hm hi
    have h20 := kc.2.2.2.1
    by_cases h8 : y.length ≤ 8
    · refine scm (R := fun v => ordr n (gA T) y v) h ?_ (fun I1 J1 hs => Tr_mo (odr_e hs.1 hs.2.2.1 hF hi h8) (fun v I' J' hh => ⟨hh.1, hh.2.2, km_r (I' := I') (J' := J') hs.2.2.1 hh.2.1⟩)) (fun v v' h1 h2 => ordr_un h1 h2)
      rw [e1]
      unfold m129_0
      rw [gr0_2, Option.bind_some, rc8, Option.bind_some, eh1 hk hi, Option.bind_some, if_pos z1, gr0_2, Option.bind_some, gr8_3, Option.bind_some, rI10 kc.2.2.2.2.1, Option.bind_some, kc.2.2.2.2.2, n_8, if_pos (show mc2 .le (nI y.length) (nI 8) = true by rw [c_le (by omega) (by omega)]; exact h8), gr0_4, Option.bind_some, rc19, Option.bind_some]
      exact Tr_b (or_o hc hk (by omega) hi) (fun v I' J' hh => Tr_ret ⟨hh.1, fun c _ => by rw [hh.2.1], fun c _ _ c3 c4 => hh.2.2 c c3 c4⟩)
    · refine rcm h (-1005) ?_ ?_
      · rw [e1]; unfold m129_0
        rw [gr0_2, Option.bind_some, rc8, Option.bind_some, eh1 hk hi, Option.bind_some, if_pos z1, gr0_2, Option.bind_some, gr8_3, Option.bind_some, rI10 kc.2.2.2.2.1, Option.bind_some, kc.2.2.2.2.2, if_neg (show ¬ mc2 .le (nI y.length) 8 = true by rw [n_8, c_le (by omega) (by omega)]; exact h8)]
      · rw [e2]; unfold m194_0
        rw [rc26, Option.bind_some, ie1 hm hi, Option.bind_some, if_pos z1, gr26_17, Option.bind_some, rI34 mc.2.2.2.2.1, Option.bind_some, mc.2.2.2.2.2.1, if_neg (show ¬ mc2 .le (nI y.length) 8 = true by rw [n_8, c_le (by omega) (by omega)]; exact h8)]
  · refine rcm h (-1001) ?_ ?_
    · rw [e1]; unfold m129_0
      rw [gr0_2, Option.bind_some, rc8, Option.bind_some, eh0 hk ha, Option.bind_some, if_neg z0]
    · rw [e2]; unfold m194_0
      rw [rc26, Option.bind_some, ie0 hm ha, Option.bind_some, if_neg z0]
/-- coset: 0, 1 or something else -/
theorem two_c (w : Int32) : w = nI 0 ∨ w = nI 1 ∨ (∀ j, j < 2 → w ≠ nI j) := by
  rcases mi_c 2 w with ⟨j, hj, rfl⟩ | h
  · have : j = 0 ∨ j = 1 := by omega
    rcases this with rfl | rfl
    · exact Or.inl rfl
    · exact Or.inr (Or.inl rfl)
  · exact Or.inr (Or.inr h)
theorem bw2_0 {w : Int32} (h : ∀ j, j < 2 → w ≠ nI j) (hp : List mE) : e137 F w.toInt64 0 1 hp = some (nI 0, hp) := by
  have e : (1 : Int64) = (nI 2 - nI 1).toInt64 := by decide
  rw [e]
  rcases bw_n (F := F) w (m := 2) (by omega) hp with ⟨j, h1, h2, _⟩ | ⟨_, h2⟩
  · exact absurd h2 (h j h1)
  · exact h2
theorem not2 {w : Int32} (h : ∀ j, j < 2 → w ≠ nI j) : mc1 .lt w = true ∨ (¬ mc1 .lt w = true ∧ ¬ mc2 .le w 1 = true) := by
  by_cases h0 : w < 0
  · left
    unfold mc1
    exact decide_eq_true h0
  · right
    refine ⟨by unfold mc1; rw [decide_eq_true_eq]; exact h0, ?_⟩
    have h2 := ge_of (m := 2) (by omega) h0 h
    unfold mc2
    dsimp only
    rw [decide_eq_true_eq]
    intro h3
    have a1 := Int32.le_iff_toInt_le.mp h2
    have a2 := Int32.le_iff_toInt_le.mp h3
    rw [nI_toInt (by omega)] at a1
    have a3 : (1 : Int32).toInt = 1 := rfl
    omega
/-- coset -/
theorem op19 (h : st n T els x N tx fl I J) (hF : 300 ≤ F) (a b w : Int32) : ok2 (hs l s d tl) (e124 F 0 a b w) (e186 F 26 a b w) I J (fun I' J' => ∃ r, st n T (els ++ r) x N tx fl I' J' ∧ opf I I' J J') := by
  have hc := h.2.1.1
  have hk := h.2.1.2.2.1
  have hm := h.2.2.2.2.1
  have hM := h.2.2.1
  have h32 := Nat.pow_le_pow_right (n := 2) (by omega) hc.2.2.1
  have e1 : ∀ hp, e124 F 0 a b w hp = m124_0 F 0 a b w hp := fun _ => rfl
  have e2 : ∀ hp, e186 F 26 a b w hp = m186_0 F 26 a b w hp := fun _ => rfl
  rcases el_c els a with ⟨i, y, hi, rfl⟩ | ha
  · have kc := kp_c hk hi
    rcases mi_c (2 ^ n) b with ⟨S, hS, rfl⟩ | hb
    · obtain ⟨z, hz⟩ := tk_ex hc.1 (bt S) _ kc.2.1 rfl
      rcases two_c w with rfl | rfl | hw
      · refine kcm (R := fun v e => kpx n (gA T) els (y ++ z) v e) h ?_ (fun I1 J1 hs => (csr_e hs.1 hs.2.2.1 hF hS hi hz).1) (fun v v' e e' h1 h2 => kpx_un hc.1 h1 h2) (fun v e he => kpx_ext he)
        rw [e1]
        unfold m124_0 m124_64
        rw [gr0_2, Option.bind_some, rc8, Option.bind_some, eh1 hk hi, Option.bind_some, if_pos z1, gr0_0, Option.bind_some, rc1, Option.bind_some, hs1 hc hS, Option.bind_some, if_neg y1, if_neg (show ¬ mc1 .lt (nI 0) = true by decide), if_pos (show mc2 .le (nI 0) 1 = true by decide), if_neg z0, gr0_3, Option.bind_some, rc14, Option.bind_some]
        exact Tr_b (kl_e hc hk (by omega) (by omega) hi hz) (fun v I' J' hh => Tr_ret hh)
      · refine kcm (R := fun v e => kpx n (gA T) els z.reverse v e) h ?_ (fun I1 J1 hs => (csr_e hs.1 hs.2.2.1 hF hS hi hz).2) (fun v v' e e' h1 h2 => kpx_un hc.1 h1 h2) (fun v e he => kpx_ext he)
        rw [e1]
        unfold m124_0 m124_64
        rw [gr0_2, Option.bind_some, rc8, Option.bind_some, eh1 hk hi, Option.bind_some, if_pos z1, gr0_0, Option.bind_some, rc1, Option.bind_some, hs1 hc hS, Option.bind_some, if_neg y1, if_neg (show ¬ mc1 .lt (nI 1) = true by decide), if_pos (show mc2 .le (nI 1) 1 = true by decide), if_pos z1, gr0_3, Option.bind_some, rc14, Option.bind_some]
        exact Tr_b (ks_e hc hk (by omega) (by omega) hi hz) (fun v I' J' hh => Tr_ret hh)
      · refine rcm' h (-1002) ?_ ?_
        · rw [e1]; unfold m124_0 m124_35
          rw [gr0_2, Option.bind_some, rc8, Option.bind_some, eh1 hk hi, Option.bind_some, if_pos z1, gr0_0, Option.bind_some, rc1, Option.bind_some, hs1 hc hS, Option.bind_some, if_neg y1]
          rcases not2 hw with h1 | ⟨h1, h2⟩
          · rw [if_pos h1]
          · rw [if_neg h1, if_neg h2]
        · rw [e2]; unfold m186_0 m186_30
          rw [rc26, Option.bind_some, ie1 hm hi, Option.bind_some, if_pos z1, rc26, Option.bind_some, ss1 hM hS, Option.bind_some, if_neg y1, bw2_0 hw, Option.bind_some, if_neg z0]
    · refine rcm' h (-1002) ?_ ?_
      · rw [e1]; unfold m124_0 m124_35
        rw [gr0_2, Option.bind_some, rc8, Option.bind_some, eh1 hk hi, Option.bind_some, if_pos z1, gr0_0, Option.bind_some, rc1, Option.bind_some, hs0 hc hb, Option.bind_some, if_pos y0]
      · rw [e2]; unfold m186_0 m186_30
        rw [rc26, Option.bind_some, ie1 hm hi, Option.bind_some, if_pos z1, rc26, Option.bind_some, ss0 hM hb, Option.bind_some, if_pos y0]
  · refine rcm' h (-1001) ?_ ?_
    · rw [e1]; unfold m124_0
      rw [gr0_2, Option.bind_some, rc8, Option.bind_some, eh0 hk ha, Option.bind_some, if_neg z0]
    · rw [e2]; unfold m186_0
      rw [rc26, Option.bind_some, ie0 hm ha, Option.bind_some, if_neg z0]
/-- both -/
theorem op20 (h : st n T els x N tx fl I J) (hF : 300 ≤ F) (a b w : Int32) : ok2 (hs l s d tl) (e125 F 0 a b w) (e189 F 26 a b w) I J (fun I' J' => st n T els x N tx fl I' J' ∧ opf I I' J J') := by
  have hc := h.2.1.1
  have hk := h.2.1.2.2.1
  have hm := h.2.2.2.2.1
  have hM := h.2.2.1
  have hok := hc.1
  have h32 := Nat.pow_le_pow_right (n := 2) (by omega) hc.2.2.1
  have e1 : ∀ hp, e125 F 0 a b w hp = m125_0 F 0 a b w hp := fun _ => rfl
  have e2 : ∀ hp, e189 F 26 a b w hp = m189_0 F 26 a b w hp := fun _ => rfl
  rcases el_c els a with ⟨i, y, hi, rfl⟩ | ha
  · have kc := kp_c hk hi
    rcases mi_c (2 ^ n) b with ⟨L, hL, rfl⟩ | hb
    · rcases mi_c (2 ^ n) w with ⟨R, hR, rfl⟩ | hw
      · obtain ⟨z1', hz1⟩ := tk_ex hok (bt R) _ kc.2.1 rfl
        have L1 := cx_L_app kc.2.1 (tk_len hok kc.2.1 hz1).1
        obtain ⟨z2', hz2⟩ := tk_ex hok (bt L) _ (cx_L_rev L1) rfl
        refine scm (R := fun v => v = nI (cx_l n (gA T) ((y ++ z1').reverse ++ z2'))) h ?_ (fun I1 J1 hs => Tr_mo (bor_e hs.1 hs.2.2.1 hF hL hR hi hz1 hz2) (fun v I' J' hh => ⟨hh.1, rfr_of hh.2.1 hh.2.2, km_rf hs.2.2.1 hh.2.1⟩)) (fun v v' h1 h2 => h1.trans h2.symm)
        · rw [e1]
          unfold m125_0
          rw [gr0_2, Option.bind_some, rc8, Option.bind_some, eh1 hk hi, Option.bind_some, if_pos z1, gr0_0, Option.bind_some, rc1, Option.bind_some, hs1 hc hL, Option.bind_some, if_neg y1, gr0_0, Option.bind_some, rc1, Option.bind_some, hs1 hc hR, Option.bind_some, if_pos z1, gr0_3, Option.bind_some, rc14, Option.bind_some]
          exact Tr_b (sh_e hc hk (by omega) (by omega) (by omega) hi hz1 hz2) (fun v I' J' hh => Tr_ret ⟨hh.1, hh.2.1, fun c c1 _ _ _ => hh.2.2 c c1⟩)
      · refine rcm h (-1002) ?_ ?_
        · rw [e1]; unfold m125_0 m125_37
          rw [gr0_2, Option.bind_some, rc8, Option.bind_some, eh1 hk hi, Option.bind_some, if_pos z1, gr0_0, Option.bind_some, rc1, Option.bind_some, hs1 hc hL, Option.bind_some, if_neg y1, gr0_0, Option.bind_some, rc1, Option.bind_some, hs0 hc hw, Option.bind_some, if_neg z0]
        · rw [e2]; unfold m189_0 m189_28
          rw [rc26, Option.bind_some, ie1 hm hi, Option.bind_some, if_pos z1, rc26, Option.bind_some, ss1 hM hL, Option.bind_some, if_neg y1, rc26, Option.bind_some, ss0 hM hw, Option.bind_some, if_neg z0]
    · refine rcm h (-1002) ?_ ?_
      · rw [e1]; unfold m125_0 m125_37
        rw [gr0_2, Option.bind_some, rc8, Option.bind_some, eh1 hk hi, Option.bind_some, if_pos z1, gr0_0, Option.bind_some, rc1, Option.bind_some, hs0 hc hb, Option.bind_some, if_pos y0]
      · rw [e2]; unfold m189_0 m189_28
        rw [rc26, Option.bind_some, ie1 hm hi, Option.bind_some, if_pos z1, rc26, Option.bind_some, ss0 hM hb, Option.bind_some, if_pos y0]
  · refine rcm h (-1001) ?_ ?_
    · rw [e1]; unfold m125_0
      rw [gr0_2, Option.bind_some, rc8, Option.bind_some, eh0 hk ha, Option.bind_some, if_neg z0]
    · rw [e2]; unfold m189_0
      rw [rc26, Option.bind_some, ie0 hm ha, Option.bind_some, if_neg z0]
end S
