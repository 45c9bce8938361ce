/-! The reference: findBelow, its tables. -/
def tbT (n : Nat) (A : Nat → Nat → Int) (W : List (List Nat)) (I : hI) (b t : Nat) : Prop := ∀ (i j : Nat) (u : List Nat), W[i]? = some u → j < n → i < b ∨ i = b ∧ j < t → stpT n A W u j (I 47 (5 * i + j)) ∧ dwnT n A u j (I 48 (5 * i + j))
/-- what stands when all below y was found -/
def blF (n : Nat) (A : Nat → Nat → Int) (y : List Nat) (W : List (List Nat)) (I : hI) (J : hJ) : Prop := bqS n A y y.length W ∧ W.length ≤ 256 ∧ blP n A W I J ∧ tbT n A W I W.length 0
section S
variable {l s d : Value} {tl : List hQ} {F : Nat} {I : hI} {J : hJ} {n : Nat} {A : Nat → Nat → Int} {y : List Nat} {W : List (List Nat)}
theorem tb_in (hM : mo_n n A I) (hF : 9000 ≤ F) (hl : ∀ (i : Nat) (u : List Nat), W[i]? = some u → cx_L n u ∧ cx_l n A u ≤ 9) (h256 : W.length ≤ 256) {b : Nat} {u : List Nat} (hu : W[b]? = some u) {rc178 : Nat → Int32 → List mE → Option (Unit × List mE)} : ∀ (f t : Nat) (K : hI × hJ), t ≤ n → n < t + f → (tbT n A W K.1 b t ∧ blP n A W K.1 K.2 ∧ bfr I K.1 J K.2) → ∃ (I' : hI) (J' : hJ), m198_188 F rc178 f 26 (nI b) (nI t) (mkH (hs l s d tl) K.1 K.2) = rc178 26 (nI (b + 1)) (mkH (hs l s d tl) I' J') ∧ tbT n A W I' (b + 1) 0 ∧ blP n A W I' J' ∧ bfr I I' J J' := by
  have hok := hM.1
  have hn5 := hM.2.2.1
  have hbl := (List.getElem?_eq_some_iff.mp hu).1
  refine lpc (σ := hI × hJ) (R := Option (Unit × List mE)) (fun f t K => m198_188 F rc178 f 26 (nI b) (nI t) (mkH (hs l s d tl) K.1 K.2)) n (fun t K => tbT n A W K.1 b t ∧ blP n A W K.1 K.2 ∧ bfr I K.1 J K.2) (fun r => ∃ (I' : hI) (J' : hJ), r = rc178 26 (nI (b + 1)) (mkH (hs l s d tl) I' J') ∧ tbT n A W I' (b + 1) 0 ∧ blP n A W I' J' ∧ bfr I I' J J') ?_ ?_
  · rintro f ⟨I1, J1⟩ ⟨p1, p2, p3⟩
    have hM1 : mo_n n A I1 := mo_bf hM p3
    refine ⟨I1, J1, ?_, fun i j v a1 a2 a3 => p1 i j v a1 a2 (by omega), p2, p3⟩
    show m198_188 F rc178 (f + 1) 26 (nI b) (nI n) (mkH (hs l s d tl) I1 J1) = _
    rw [m198_188, gi26_0, Option.bind_some, hM1.2.2.2.1, if_pos (show mc2 .ge (nI n) (nI n) = true by rw [c_ge (by omega) (by omega)]; omega), n_1, nI_add]
  · rintro f t ⟨I1, J1⟩ ht ⟨p1, p2, p3⟩
    right
    have p1 : tbT n A W I1 b t := p1
    have p2 : blP n A W I1 J1 := p2
    have p3 : bfr I I1 J J1 := p3
    have hM1 := mo_bf hM p3
    obtain ⟨uL, ul⟩ := hl b u hu
    have e25 : (25 : Int32) * nI b = nI (25 * b) := by rw [n_25, pk_mul]
    have e5 : (5 : Int32) * nI b + nI t = nI (5 * b + t) := by rw [n_5, pk_mul, nI_add]
    have e2 := cp_e (l := l) (s := s) (d := d) (tl := tl) (F := F) (I := I1) (J := J1) (o := 25 * b) (p := 0) (by omega) q45 q32 (by omega) (by omega) (by omega) (by omega) (by decide)
    have q2 : sq n A u (rwJ J1 32 0 25 (fun q => J1 45 (25 * b + q)) 32) 0 := sq_cp (p2.1 b u hu)
    generalize hJ2 : rwJ J1 32 0 25 (fun q => J1 45 (25 * b + q)) = J2 at *
    have c2 : ∀ c, c ≠ 32 → J2 c = J1 c := fun c hc => by rw [← hJ2]; exact rwJ_ne hc
    have dd : ∃ z : Int32, (z = 0 ∨ z = 1) ∧ dwnT n A u t z ∧ e157 F 32 (nI 0) (nI t) (mkH (hs l s d tl) I1 J2) = some (z, (mkH (hs l s d tl) I1 J2)) := by
      rcases idq_e (l := l) (s := s) (d := d) (tl := tl) (F := F) (I := I1) (J := J2) hok hn5 (by omega) q32 (by omega) ht (by omega) uL (by omega) q2 with ⟨e1, hd⟩ | ⟨e1, hd⟩
      · exact ⟨nI 1, Or.inr rfl, Or.inl ⟨hd, rfl⟩, e1⟩
      · exact ⟨nI 0, Or.inl rfl, Or.inr ⟨hd, rfl⟩, e1⟩
    obtain ⟨z, z1, z2, z3⟩ := dd
    have hM2 : mo_n n A (upI I1 48 (5 * b + t) z) := mo_fr hM1 (by rw [upI_ne (by decide)]) (upI_ne (by decide))
    obtain ⟨J3, e3, q3, c3⟩ := th_e (l := l) (s := s) (d := d) (tl := tl) (F := F) (I := upI I1 48 (5 * b + t) z) (J := J2) hM2 (by omega) ht uL q2
    have c3' : ∀ c, c ≠ 32 → J3 c = J1 c := fun c hc => (c3 c hc).trans (c2 c hc)
    have utL : cx_L n (u ++ [t]) := cx_L_app uL (cx_L_1 ht)
    have utl : cx_l n A (u ++ [t]) ≤ 10 := by rcases cx_rstep hok uL ht with h | h <;> omega
    have s45 : sqs n A W J3 45 := fun i x hx => by rw [c3' 45 (by decide)]; exact p2.1 i x hx
    have m31 : upI I1 48 (5 * b + t) z 26 31 = nI W.length := by rw [upI_ne (by decide)]; exact p2.2.2
    have ff : ∃ r : Int32, stpT n A W u t r ∧ e199 F 26 (mkH (hs l s d tl) (upI I1 48 (5 * b + t) z) J3) = some (r, (mkH (hs l s d tl) (upI I1 48 (5 * b + t) z) J3)) := by
      rcases fd_e (l := l) (s := s) (d := d) (tl := tl) (F := F) (I := upI I1 48 (5 * b + t) z) (J := J3) hok hn5 hF hl h256 s45 m31 utL (by omega) q3 with ⟨j, v, a1, a2, a3⟩ | ⟨a1, a2⟩
      · exact ⟨nI j, Or.inl ⟨j, v, a1, a2, rfl⟩, a3⟩
      · exact ⟨gI 1, Or.inr ⟨a1, rfl⟩, a2⟩
    obtain ⟨r, r1, r2⟩ := ff
    have oth : ∀ c, c ≠ 47 → c ≠ 48 → upI (upI I1 48 (5 * b + t) z) 47 (5 * b + t) r c = I1 c := fun c a1 a2 => by rw [upI_ne a1, upI_ne a2]
    have at7 : ∀ q, upI (upI I1 48 (5 * b + t) z) 47 (5 * b + t) r 47 q = if q = 5 * b + t then r else I1 47 q := fun q => by rw [upI_at, upI_ne (by decide)]
    have at8 : ∀ q, upI (upI I1 48 (5 * b + t) z) 47 (5 * b + t) r 48 q = if q = 5 * b + t then z else I1 48 q := fun q => by rw [upI_ne (by decide), upI_at]
    refine ⟨(upI (upI I1 48 (5 * b + t) z) 47 (5 * b + t) r, J3), ?_, fun i j v a1 a2 a3 => ?_, ⟨s45, fun i x hx => ?_, ?_⟩, ⟨fun c a1 a2 a3 a4 => ?_, fun g hgf => ?_, fun c a1 a2 => ?_⟩⟩
    · show m198_188 F rc178 (f + 1) 26 (nI b) (nI t) (mkH (hs l s d tl) I1 J1) = _
      rw [m198_188, gi26_0, Option.bind_some, hM1.2.2.2.1, if_neg (show ¬ mc2 .ge (nI t) (nI n) = true by rw [c_ge (by omega) (by omega)]; omega), gr26_32, Option.bind_some, gr26_13, Option.bind_some, e25]
      show ((e177 F 45 (nI (25 * b)) 32 (nI 0) (mkH (hs l s d tl) I1 J1)).bind _) = _
      rw [e2, Option.bind_some, gr26_35, Option.bind_some, gr26_13, Option.bind_some]
      show ((e157 F 32 (nI 0) (nI t) (mkH (hs l s d tl) I1 J2)).bind _) = _
      rw [z3, Option.bind_some, e5, wZ48 (by omega) z1, Option.bind_some, rc26, Option.bind_some, e3, Option.bind_some, gr26_34, Option.bind_some, rc26, Option.bind_some, r2, Option.bind_some, wI47 (by omega), Option.bind_some, n_1, nI_add]
    · show stpT n A W v j (upI (upI I1 48 (5 * b + t) z) 47 (5 * b + t) r 47 (5 * i + j)) ∧ dwnT n A v j (upI (upI I1 48 (5 * b + t) z) 47 (5 * b + t) r 48 (5 * i + j))
      rw [at7, at8]
      by_cases hij : i = b ∧ j = t
      · obtain ⟨rfl, rfl⟩ := hij
        rw [hu] at a1
        cases a1
        rw [if_pos rfl, if_pos rfl]
        exact ⟨r1, z2⟩
      · rw [if_neg (by omega), if_neg (by omega)]
        exact p1 i j v a1 a2 (by omega)
    · exact (congrFun (oth 46 (by decide) (by decide)) i).trans (p2.2.1 i x hx)
    · exact (congrFun (oth 26 (by decide) (by decide)) 31).trans p2.2.2
    · exact (oth c a3 a4).trans (p3.1 c a1 a2 a3 a4)
    · exact (congrFun (oth 26 (by decide) (by decide)) g).trans (p3.2.1 g hgf)
    · show J3 c = _
      rw [c3' c a1]
      exact p3.2.2 c a1 a2
theorem tb_out (hM : mo_n n A I) (hF : 9000 ≤ F) (hl : ∀ (i : Nat) (u : List Nat), W[i]? = some u → cx_L n u ∧ cx_l n A u ≤ 9) (h256 : W.length ≤ 256) : ∀ (f b : Nat) (K : hI × hJ), b ≤ W.length → W.length < b + f → (tbT n A W K.1 b 0 ∧ blP n A W K.1 K.2 ∧ bfr I K.1 J K.2) → ∃ (I' : hI) (J' : hJ), m198_178 F f 26 (nI b) (mkH (hs l s d tl) K.1 K.2) = some ((), (mkH (hs l s d tl) I' J')) ∧ tbT n A W I' W.length 0 ∧ blP n A W I' J' ∧ bfr I I' J J' := by
  have hn5 := hM.2.2.1
  refine lpc (σ := hI × hJ) (R := Option (Unit × List mE)) (fun f b K => m198_178 F f 26 (nI b) (mkH (hs l s d tl) K.1 K.2)) W.length (fun b K => tbT n A W K.1 b 0 ∧ blP n A W K.1 K.2 ∧ bfr I K.1 J K.2) (fun r => ∃ (I' : hI) (J' : hJ), r = some ((), (mkH (hs l s d tl) I' J')) ∧ tbT n A W I' W.length 0 ∧ blP n A W I' J' ∧ bfr I I' J J') ?_ ?_
  · rintro f ⟨I1, J1⟩ ⟨p1, p2, p3⟩
    have p2 : blP n A W I1 J1 := p2
    refine ⟨I1, J1, ?_, p1, p2, p3⟩
    show m198_178 F (f + 1) 26 (nI W.length) (mkH (hs l s d tl) I1 J1) = _
    rw [m198_178, gi26_31, Option.bind_some, p2.2.2, if_pos (show mc2 .ge (nI W.length) (nI W.length) = true by rw [c_ge (by omega) (by omega)]; omega)]
  · rintro f b ⟨I1, J1⟩ hb ⟨p1, p2, p3⟩
    right
    have p2 : blP n A W I1 J1 := p2
    obtain ⟨I2, J2, e, r⟩ := tb_in (l := l) (s := s) (d := d) (tl := tl) (rc178 := m198_178 F f) hM hF hl h256 (gd_ex hb) F 0 (I1, J1) (by omega) (by omega) ⟨p1, p2, p3⟩
    refine ⟨(I2, J2), ?_, r⟩
    show m198_178 F (f + 1) 26 (nI b) (mkH (hs l s d tl) I1 J1) = _
    rw [m198_178, gi26_31, Option.bind_some, p2.2.2, if_neg (show ¬ mc2 .ge (nI b) (nI W.length) = true by rw [c_ge (by omega) (by omega)]; omega)]
    exact e
/-- findBelow -/
theorem fb_e (hM : mo_n n A I) {els : List (List Nat)} (hk : km n A els I) (hF : 9000 ≤ F) {w : Nat} (hy : els[w]? = some y) (h8 : y.length ≤ 8) : ∃ (W : List (List Nat)) (I' : hI) (J' : hJ), e198 F 26 (nI w) (mkH (hs l s d tl) I J) = some ((), (mkH (hs l s d tl) I' J')) ∧ blF n A y W I' J' ∧ bfr I I' J J' := by
  obtain ⟨yc, yL, yl, y20, y40, yb, yw⟩ := km_c hk hy
  have e1 := bg_e (l := l) (s := s) (d := d) (tl := tl) (F := F) (I := I) (J := J) (by omega)
  have q1 : sq n A [] (rwJ J 32 0 25 (fun q => zJ (if q / 5 = q % 5 then 1 else 0)) 32) 0 := sq_nil
  generalize hJ1 : rwJ J 32 0 25 (fun q => zJ (if q / 5 = q % 5 then 1 else 0)) = J1 at *
  have c1 : ∀ c, c ≠ 32 → J1 c = J c := fun c hc => by rw [← hJ1]; exact rwJ_ne hc
  have e2 := cp_e (l := l) (s := s) (d := d) (tl := tl) (F := F) (I := I) (J := J1) (o := 0) (p := 0) (by omega) q32 q45 (by omega) (by omega) (by omega) (by omega) (by decide)
  have q2 : sq n A [] (rwJ J1 45 0 25 (fun q => J1 32 (0 + q)) 45) 0 := sq_cp q1
  generalize hJ2 : rwJ J1 45 0 25 (fun q => J1 32 (0 + q)) = J2 at *
  have c2 : ∀ c, c ≠ 45 → J2 c = J1 c := fun c hc => by rw [← hJ2]; exact rwJ_ne hc
  have key : ∀ (f k : Nat) (K : List (List Nat) × hI × hJ), k ≤ y.length → y.length < k + f → (bqS n A y k K.1 ∧ blP n A K.1 K.2.1 K.2.2 ∧ bfr I K.2.1 J K.2.2) → ∃ (W : List (List Nat)) (I' : hI) (J' : hJ), m198_31 F f 26 (nI w) (nI k) (mkH (hs l s d tl) K.2.1 K.2.2) = some ((), (mkH (hs l s d tl) I' J')) ∧ blF n A y W I' J' ∧ bfr I I' J J' := by
    refine lpc (σ := List (List Nat) × hI × hJ) (R := Option (Unit × List mE)) (fun f k K => m198_31 F f 26 (nI w) (nI k) (mkH (hs l s d tl) K.2.1 K.2.2)) y.length (fun k K => bqS n A y k K.1 ∧ blP n A K.1 K.2.1 K.2.2 ∧ bfr I K.2.1 J K.2.2) (fun r => ∃ (W : List (List Nat)) (I' : hI) (J' : hJ), r = some ((), (mkH (hs l s d tl) I' J')) ∧ blF n A y W I' J' ∧ bfr I I' J J') ?_ ?_
    · rintro f ⟨W, I1, J1⟩ ⟨p1, p2, p3⟩
      have p1 : bqS n A y y.length W := p1
      have p3 : bfr I I1 J J1 := p3
      have l34 : I1 34 w = nI y.length := by rw [p3.1 34 (by decide) (by decide) (by decide) (by decide)]; exact yb
      have h256 : W.length ≤ 256 := bqS_len (y := y) (fun i u hu => by
        obtain ⟨_, z, a1, a2⟩ := p1.2.2.1 i u hu
        rw [List.take_length] at a1
        exact ⟨z, a1, a2⟩) p1.2.1 h8
      have hl : ∀ (i : Nat) (u : List Nat), W[i]? = some u → cx_L n u ∧ cx_l n A u ≤ 9 := fun i u hu => by
        obtain ⟨a0, z, a1, a2⟩ := p1.2.2.1 i u hu
        rw [List.take_length] at a1
        have := bqS_l a0 ⟨z, a1, a2⟩ yL
        exact ⟨a0, by omega⟩
      obtain ⟨I2, J2, e, r1, r2, r3⟩ := tb_out (l := l) (s := s) (d := d) (tl := tl) (F := F) (J := J) hM hF hl h256 F 0 (I1, J1) (by omega) (by omega) ⟨fun i j u _ _ hh => by omega, p2, p3⟩
      refine ⟨W, I2, J2, ?_, ⟨p1, h256, r2, r1⟩, r3⟩
      show m198_31 F (f + 1) 26 (nI w) (nI y.length) (mkH (hs l s d tl) I1 J1) = _
      rw [m198_31, gr26_17, Option.bind_some, rI34 (by omega), Option.bind_some, l34, if_pos (show mc2 .ge (nI y.length) (nI y.length) = true by rw [c_ge (by omega) (by omega)]; omega)]
      exact e
    · rintro f k ⟨W, I1, J1⟩ hk8 ⟨p1, p2, p3⟩
      right
      have p1 : bqS n A y k W := p1
      have p2 : blP n A W I1 J1 := p2
      have p3 : bfr I I1 J J1 := p3
      have l34 : I1 34 w = nI y.length := by rw [p3.1 34 (by decide) (by decide) (by decide) (by decide)]; exact yb
      obtain ⟨t, ht⟩ := ex_at hk8
      have htn := cx_L_at yL ht
      have l35 : I1 35 (20 * w + k) = nI t := by rw [p3.1 35 (by decide) (by decide) (by decide) (by decide)]; exact yw k t ht
      have hp := bqS_p p1
      have h128 : W.length ≤ 128 := Nat.le_trans hp (Nat.pow_le_pow_right (by omega) (show k ≤ 7 by omega))
      obtain ⟨W2, I2, J2, e, r1, r2, r3⟩ := fb_in (l := l) (s := s) (d := d) (tl := tl) (J := J) (w := w) (rc31 := m198_31 F f) hM hF (show k < 8 by omega) yL htn h128 F 0 (W, I1, J1) (by omega) (by omega) ⟨bqI_0 p1 t, fun i u _ hu => (p1.2.2.1 i u hu).2, Nat.le_refl _, p2, p3⟩
      refine ⟨(W2, I2, J2), ?_, bqI_z r1 ht, r2, r3⟩
      show m198_31 F (f + 1) 26 (nI w) (nI k) (mkH (hs l s d tl) I1 J1) = _
      rw [m198_31, gr26_17, Option.bind_some, rI34 (by omega), Option.bind_some, l34, if_neg (show ¬ mc2 .ge (nI k) (nI y.length) = true by rw [c_ge (by omega) (by omega)]; omega), gr26_18, Option.bind_some, n_20, pk_mul, nI_add, rI35 (by omega), Option.bind_some, l35, gi26_31, Option.bind_some, p2.2.2]
      exact e
  obtain ⟨W, I', J', e3, r⟩ := key F 0 ([[]], upI (upI I 46 0 (nI 0)) 26 31 (nI 1), J2) (by omega) (by omega) ⟨bqS_0, ⟨fun i x hx => by
    cases i with
    | zero =>
      cases hx
      exact q2
    | succ i => simp at hx, fun i x hx => by
    cases i with
    | zero =>
      cases hx
      show upI (upI I 46 0 (nI 0)) 26 31 (nI 1) 46 0 = _
      rw [upI_ne (by decide), upI_at, if_pos rfl, cx_l_nil]
    | succ i => simp at hx, by
      show upI (upI I 46 0 (nI 0)) 26 31 (nI 1) 26 31 = nI 1
      rw [upI_at, if_pos rfl]⟩, ⟨fun c a1 a2 _ _ => by
      show upI (upI I 46 0 (nI 0)) 26 31 (nI 1) c = _
      rw [upI_ne a1, upI_ne a2], fun g hg => by
      show upI (upI I 46 0 (nI 0)) 26 31 (nI 1) 26 g = _
      rw [upI_at, if_neg hg, upI_ne (by decide)], fun c a1 a2 => by
      show J2 c = _
      rw [c2 c a2, c1 c a1]⟩⟩
  refine ⟨W, I', J', ?_, r⟩
  have e4 : wrI (mkH (hs l s d tl) I J2) 46 0 0 = some (mkH (hs l s d tl) (upI I 46 0 (nI 0)) J2) := wrI_H (i := 0) q46 (by omega) (by omega)
  show m198_0 F 26 (nI w) _ = _
  unfold m198_0
  rw [rc26, Option.bind_some, e1, Option.bind_some, gr26_13, Option.bind_some, gr26_32, Option.bind_some]
  show ((e177 F 32 (nI 0) 45 (nI 0) (mkH (hs l s d tl) I J1)).bind _) = _
  rw [e2, Option.bind_some, gr26_33, Option.bind_some, e4, Option.bind_some]
  show ((pfv 11 31 (mkH (hs l s d tl) (upI I 46 0 (nI 0)) J2) 26 (.int (nI 1))).bind _) = _
  rw [pi26_31, Option.bind_some]
  exact e3
end S
