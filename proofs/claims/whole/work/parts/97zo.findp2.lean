/-! The reference: findP, all of it. -/
/-- what the reference has found of P of the element y -/
def exQ (n : Nat) (A : Nat → Nat → Int) (y : List Nat) (W : List (List Nat)) (f : List Nat → Nat → Int) (I : hI) (J : hJ) : Prop := blF n A y W I J ∧ klo n A y f ∧ ∀ (i : Nat) (u : List Nat), W[i]? = some u → ∀ k, k < 9 → I 52 (9 * i + k) = zI (f u k)
/-- what the reference knows -/
def exP (n : Nat) (A : Nat → Nat → Int) (els : List (List Nat)) (I : hI) (J : hJ) : Prop := I 26 30 = gI 1 ∨ ∃ (w : Nat) (y : List Nat) (W : List (List Nat)) (f : List Nat → Nat → Int), els[w]? = some y ∧ y.length ≤ 8 ∧ I 26 30 = nI w ∧ exQ n A y W f I J
section S
variable {l s d : Value} {tl : List hQ} {F : Nat} {I : hI} {J : hJ} {n : Nat} {A : Nat → Nat → Int} {y : List Nat} {W : List (List Nat)} {f : List Nat → Nat → Int}
/-- one element of the length -/
theorem fp_1 (hM : mo_n n A I) (hF : 9000 ≤ F) {w : Nat} (yL : cx_L n y) (yl : cx_l n A y = y.length) (h8 : y.length ≤ 8) (hB : blF n A y W I J) (hf : klo n A y f) {v : Nat} {x : List Nat} (hx : W[v]? = some x) {Pq : Nat → Prop} (hP : ∀ j z, W[j]? = some z → cx_l n A x < cx_l n A z → Pq j) (hnP : ¬ Pq v) (hS : fpS n A W f Pq I) {rc50 : Nat → Int32 → Int32 → List mE → Option (Unit × List mE)} {rc56 : Nat → Int32 → Int32 → Int32 → List mE → Option (Unit × List mE)} : ∃ K : hI, m203_102 F rc50 rc56 26 (nI w) (nI (cx_l n A x)) (nI v) (nI (y.length - cx_l n A x)) 52 (nI (9 * v)) (if y.length - cx_l n A x = 0 then 1 else 0) (mkH (hs l s d tl) I J) = rc56 26 (nI w) (nI (cx_l n A x)) (nI (v + 1)) (mkH (hs l s d tl) K J) ∧ fpS n A W f (fun j => Pq j ∨ j = v) K ∧ pfr I K := by
  have hok := hM.1
  have hA := bqS_A hB.1
  have hI := bqA_idl hok yL yl hA
  have h256 := hB.2.1
  have hvl := (List.getElem?_eq_some_iff.mp hx).1
  obtain ⟨xL, xb⟩ := hI.2.1 v x hx
  obtain ⟨xl1, xl2⟩ := sbe_l yL xL xb
  have xb : sbe n A x y := xb
  generalize hz0 : (if y.length - cx_l n A x = 0 then (1 : Int32) else 0) = z0
  obtain ⟨K1, e1, r1, r2⟩ := fp_row (l := l) (s := s) (d := d) (tl := tl) (F := F) (I := upI I 52 (9 * v) z0) (J := J) (w := w) (v := v) (dd := y.length - cx_l n A x) (sz := nI (cx_l n A x)) (rc50 := rc50) (rc56 := rc56) hF (by omega) (by omega) F 0 (upI I 52 (9 * v) z0) (by omega) (by omega) ⟨fun _ _ => rfl, fun q => by rw [if_neg (by omega)]⟩
  have f1 : pfr I K1 := fun c a1 a2 a3 a4 a5 => by rw [r1 c a4, upI_ne a4]
  have s53 : K1 53 = I 53 := by rw [r1 53 (by decide), upI_ne (by decide)]
  -- the numbers are those of P
  have ps : ∀ k, k < 9 → K1 52 (9 * v + k) = zI (f x k) := by
    intro k hk
    obtain ⟨p1, p2⟩ := hS v x hx k hk
    rw [r2]
    by_cases hlow : k < (y.length - cx_l n A x + 1) / 2
    · rw [if_pos (by omega), upI_ne (by decide), p2, zI_neg]
      congr 1
      rw [klo_r hok yL hf hI xL xb (by omega)]
      congr 1
      unfold lsm acs
      refine cx_sum_eq (fun j hj => ?_)
      exact cii_cg ⟨fun hh => hh.2, fun hh => ⟨hP j _ (gd_ex hj) hh, hh⟩⟩ (fun _ => rfl) (fun _ => rfl)
    · rw [if_neg (by omega), upI_at]
      by_cases h0 : y.length - cx_l n A x = 0
      · have hg := xl2 (by omega)
        rw [hf.1 x y hg, hf.2.2.1]
        by_cases hk0 : k = 0
        · rw [if_pos (by omega), if_pos hk0, ← hz0, if_pos h0]
          rfl
        · rw [if_neg (by omega), if_neg hk0, p1, cii_n hnP]
      · have hne : cx_g n A x ≠ cx_g n A y := fun e => by
          have := cx_l_eq e
          omega
        rw [hf.2.2.2.1 x xL hne k (by omega)]
        by_cases hk0 : k = 0
        · rw [if_pos (by omega), ← hz0, if_neg h0]
          rfl
        · rw [if_neg (by omega), p1, cii_n hnP]
  have ps2 : ∀ (i : Nat) (u : List Nat), W[i]? = some u → i ≠ v → ∀ k, k < 9 → K1 52 (9 * i + k) = I 52 (9 * i + k) := by
    intro i u hu hiv k hk
    rw [r2, if_neg (by omega), upI_at, if_neg (by omega)]
  have B1 := blF_fr hB f1
  have hM1 : mo_n n A K1 := mo_fr hM (by rw [f1 26 (by decide) (by decide) (by decide) (by decide) (by decide)]) (f1 28 (by decide) (by decide) (by decide) (by decide) (by decide))
  obtain ⟨rL, rg, rl⟩ := rdw_sp (A := A) xL
  obtain ⟨K2, e2, q1, q2⟩ := fr_e (l := l) (s := s) (d := d) (tl := tl) (F := F) hM1 hF yL h8 B1 hx rL rl rg
  have f2 : pfr K1 K2 := fun c a1 a2 a3 _ _ => q2 c a1 a2 a3
  have B2 := blF_fr B1 f2
  obtain ⟨K3, e3, t1, t2⟩ := fp_br (l := l) (s := s) (d := d) (tl := tl) (F := F) (I := K2) (J := J) (n := n) (A := A) (W := W) (w := w) (v := v) (z := cx_l n A x) (rc50 := rc50) (rc56 := rc56) hF h256 (by omega) (by omega) B2.2.2.1.2.2 (fun i u hu => ⟨B2.2.2.1.2.1 i u hu, by have := bqS_l (hA.2.2.1 i u hu).1 (hA.2.2.1 i u hu).2 yL; omega⟩) (a := Rx n A x) (b := f x) (fun i u hu k hk => q1 i u hu k hk) (fun k hk => by rw [q2 52 (by decide) (by decide) (by decide)]; exact ps k hk) F 0 K2 (by omega) (by omega) ⟨fun _ _ => rfl, fun j u hu k hk => by
    rw [cii_n (fun hh => by omega)]
    show _ = _ + (0 : Int32)
    rw [Int32.add_zero]⟩
  refine ⟨K3, ?_, fun i u hu k hk => ⟨?_, ?_⟩, pfr_tr f1 (pfr_tr f2 (fun c _ _ _ _ a5 => t1 c a5))⟩
  · unfold m203_102
    rw [wI52 (by omega), Option.bind_some]
    refine Eq.trans e1 ?_
    unfold m203_153
    rw [rc26, Option.bind_some, e2, Option.bind_some]
    exact e3
  · rw [t1 52 (by decide), q2 52 (by decide) (by decide) (by decide)]
    by_cases hiv : i = v
    · subst hiv
      rw [hx] at hu
      cases hu
      rw [ps k hk, cii_p (Or.inr rfl)]
    · rw [ps2 i u hu hiv k hk, (hS i u hu k hk).1, cii_cg (show Pq i ↔ (Pq i ∨ i = v) from ⟨Or.inl, fun hh => hh.elim id (fun e => absurd e hiv)⟩) (fun _ => rfl) (fun _ => rfl)]
  · rw [t2 i u hu k hk, q2 53 (by decide) (by decide) (by decide), s53, (hS i u hu k hk).2, acs_a hx hnP, zI_add]
/-- one length -/
theorem fp_2 (hM : mo_n n A I) {els : List (List Nat)} (hk : km n A els I) (hF : 9000 ≤ F) {w : Nat} (hy : els[w]? = some y) (yL : cx_L n y) (yl : cx_l n A y = y.length) (h8 : y.length ≤ 8) (hB : blF n A y W I J) (hf : klo n A y f) {z : Nat} (hz : z ≤ y.length) {rc50 : Nat → Int32 → Int32 → List mE → Option (Unit × List mE)} : ∀ (g v : Nat) (K : hI), v ≤ W.length → W.length < v + g → (fpS n A W f (fun j => z < cx_l n A (W.getD j []) ∨ cx_l n A (W.getD j []) = z ∧ j < v) K ∧ pfr I K) → ∃ K' : hI, m203_56 F rc50 g 26 (nI w) (nI z) (nI v) (mkH (hs l s d tl) K J) = rc50 26 (nI w) (nI z + (-1)) (mkH (hs l s d tl) K' J) ∧ fpS n A W f (fun j => z < cx_l n A (W.getD j []) ∨ cx_l n A (W.getD j []) = z ∧ j < W.length) K' ∧ pfr I K' := by
  obtain ⟨yc, _, _, _, w40, yb, _⟩ := km_c hk hy
  have hok := hM.1
  have hA := bqS_A hB.1
  have h256 := hB.2.1
  refine lpc (σ := hI) (R := Option (Unit × List mE)) (fun g v K => m203_56 F rc50 g 26 (nI w) (nI z) (nI v) (mkH (hs l s d tl) K J)) W.length (fun v K => fpS n A W f (fun j => z < cx_l n A (W.getD j []) ∨ cx_l n A (W.getD j []) = z ∧ j < v) K ∧ pfr I K) (fun r => ∃ K' : hI, r = rc50 26 (nI w) (nI z + (-1)) (mkH (hs l s d tl) K' J) ∧ fpS n A W f (fun j => z < cx_l n A (W.getD j []) ∨ cx_l n A (W.getD j []) = z ∧ j < W.length) K' ∧ pfr I K') ?_ ?_
  · rintro g K ⟨p1, p2⟩
    have B1 := blF_fr hB p2
    refine ⟨K, ?_, p1, p2⟩
    show m203_56 F rc50 (g + 1) 26 (nI w) (nI z) (nI W.length) (mkH (hs l s d tl) K J) = _
    rw [m203_56, gi26_31, Option.bind_some, B1.2.2.1.2.2, if_pos (show mc2 .ge (nI W.length) (nI W.length) = true by rw [c_ge (by omega) (by omega)]; omega)]
  · rintro g v K hv ⟨p1, p2⟩
    right
    have B1 := blF_fr hB p2
    have hx := gd_ex hv
    have xl : cx_l n A (W.getD v []) ≤ 8 := by
      have := bqS_l (hA.2.2.1 v _ hx).1 (hA.2.2.1 v _ hx).2 yL
      omega
    generalize hxx : W.getD v [] = x at hx xl
    have l34 : K 34 w = nI y.length := by rw [p2 34 (by decide) (by decide) (by decide) (by decide) (by decide)]; exact yb
    by_cases hlen : cx_l n A x = z
    · subst hlen
      have hM1 : mo_n n A K := mo_fr hM (by rw [p2 26 (by decide) (by decide) (by decide) (by decide) (by decide)]) (p2 28 (by decide) (by decide) (by decide) (by decide) (by decide))
      obtain ⟨K1, e1, r1, r2⟩ := fp_1 (l := l) (s := s) (d := d) (tl := tl) (F := F) (w := w) (rc50 := rc50) (rc56 := m203_56 F rc50 g) hM1 hF yL yl h8 B1 hf hx (Pq := fun j => cx_l n A x < cx_l n A (W.getD j []) ∨ cx_l n A (W.getD j []) = cx_l n A x ∧ j < v) (fun j q hq hlt => Or.inl (by rw [gd_of hq]; exact hlt)) (fun hh => by
        rcases hh with hh | hh
        · rw [hxx] at hh
          omega
        · omega) p1
      refine ⟨K1, ?_, fpS_cg (fun j hj => ?_) r1, pfr_tr p2 r2⟩
      · show m203_56 F rc50 (g + 1) 26 (nI w) (nI (cx_l n A x)) (nI v) (mkH (hs l s d tl) K J) = _
        rw [m203_56, gi26_31, Option.bind_some, B1.2.2.1.2.2, if_neg (show ¬ mc2 .ge (nI v) (nI W.length) = true by rw [c_ge (by omega) (by omega)]; omega), gr26_33, Option.bind_some, rI46 (by omega), Option.bind_some, B1.2.2.1.2.1 v x hx, if_neg (show ¬ mc2 .ne (nI (cx_l n A x)) (nI (cx_l n A x)) = true by rw [c_ne (by omega) (by omega)]; omega), gr26_17, Option.bind_some, rI34 (by omega), Option.bind_some, l34, gr26_39, Option.bind_some, sub_le (by omega) (by omega), n_9, pk_mul]
        refine Eq.trans ?_ e1
        by_cases h0 : y.length - cx_l n A x = 0
        · rw [if_neg (show ¬ mc1 .ne (nI (y.length - cx_l n A x)) = true by rw [d_ne (by omega)]; omega), if_pos h0]
        · rw [if_pos (show mc1 .ne (nI (y.length - cx_l n A x)) = true by rw [d_ne (by omega)]; omega), if_neg h0]
      · show ((cx_l n A x < cx_l n A (W.getD j []) ∨ cx_l n A (W.getD j []) = cx_l n A x ∧ j < v) ∨ j = v) ↔ (cx_l n A x < cx_l n A (W.getD j []) ∨ cx_l n A (W.getD j []) = cx_l n A x ∧ j < v + 1)
        constructor
        · rintro (hh | rfl)
          · omega
          · rw [hxx]
            omega
        · intro hh
          by_cases hjv : j = v
          · exact Or.inr hjv
          · exact Or.inl (by omega)
    · refine ⟨K, ?_, fpS_cg (fun j hj => ?_) p1, p2⟩
      · show m203_56 F rc50 (g + 1) 26 (nI w) (nI z) (nI v) (mkH (hs l s d tl) K J) = _
        rw [m203_56, gi26_31, Option.bind_some, B1.2.2.1.2.2, if_neg (show ¬ mc2 .ge (nI v) (nI W.length) = true by rw [c_ge (by omega) (by omega)]; omega), gr26_33, Option.bind_some, rI46 (by omega), Option.bind_some, B1.2.2.1.2.1 v x hx, if_pos (show mc2 .ne (nI (cx_l n A x)) (nI z) = true by rw [c_ne (by omega) (by omega)]; exact hlen)]
        unfold m203_194
        rw [n_1, nI_add]
      · show (z < cx_l n A (W.getD j []) ∨ cx_l n A (W.getD j []) = z ∧ j < v) ↔ (z < cx_l n A (W.getD j []) ∨ cx_l n A (W.getD j []) = z ∧ j < v + 1)
        constructor
        · intro hh
          omega
        · rintro (hh | ⟨h1, h2⟩)
          · exact Or.inl hh
          · by_cases hjv : j = v
            · subst hjv
              rw [hxx] at h1
              exact absurd h1 hlen
            · exact Or.inr ⟨h1, by omega⟩
end S
