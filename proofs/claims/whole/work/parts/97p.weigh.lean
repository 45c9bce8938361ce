/-! The class: Shifts, weighRight and drawImages. -/
/-- what an element makes of start roots, in a block of the images -/
def imq (n : Nat) (A : Nat → Nat → Int) (u : List Nat) (g : Nat → Int64) (o : Nat) : Prop := ∀ i, i < n → rt n A u i g (o + i * 5)
section S
variable {l s d : Value} {tl : List hQ} {F : Nat} {I : hI} {J : hJ} {n b : Nat} {A : Nat → Nat → Int}
theorem si0 (h : siS (hs l s d tl) b) : gfr 7 0 (mkH (hs l s d tl) I J) b = some 1 := gfr_H h.1 rfl q1
theorem si1 (h : siS (hs l s d tl) b) : gfr 7 1 (mkH (hs l s d tl) I J) b = some 8 := gfr_H h.1 rfl q8
theorem si2 (h : siS (hs l s d tl) b) : gfr 7 2 (mkH (hs l s d tl) I J) b = some (b + 3) := gfr_H h.1 rfl h.2.2.2.1
theorem si3 (h : siS (hs l s d tl) b) : gfr 7 3 (mkH (hs l s d tl) I J) b = some (b + 1) := gfr_H h.1 rfl h.2.1
theorem si4 (h : siS (hs l s d tl) b) : gfr 7 4 (mkH (hs l s d tl) I J) b = some (b + 2) := gfr_H h.1 rfl h.2.2.1
theorem sir (h : siS (hs l s d tl) b) : rcv 7 (mkH (hs l s d tl) I J) b = some () := rcv_H h.1
theorem x_dn (hok : cx_ok n A) {u : List Nat} (hu : cx_L n u) (hl : cx_l n A u ≤ 31) {t : Nat} (ht : t < n) {g : Nat → Int64} {o : Nat} (hr : rt n A u t g o) : (∃ j, j < n ∧ g (o + j) < 0) ↔ dn n A u t := by
  have e : ∀ j, j < n → (g (o + j) < 0 ↔ cx_x n A u (cx_e t) j < 0) := fun j hj => by
    rw [hr j hj]
    exact zJ_lt (x_in hok hu hl ht j).1 (x_in hok hu hl ht j).2
  have e2 := cx_dn hok hu ht
  constructor
  · rintro ⟨j, hj, h1⟩
    exact e2.mp ⟨j, (e j hj).mp h1⟩
  · intro h1
    obtain ⟨j, hj⟩ := e2.mpr h1
    by_cases hjn : j < n
    · exact ⟨j, hjn, (e j hjn).mpr hj⟩
    · rw [cx_x_out hu (by omega)] at hj
      unfold cx_e at hj
      rw [if_neg (by omega)] at hj
      omega
/-- weighRight -/
theorem wgr_e (h : siS (hs l s d tl) b) (hg : cl_n n A I) (hF : 9000 ≤ F) {x t : Nat} (hx : x < 300) (ht : t < n) {u : List Nat} (uL : cx_L n u) (ul : cx_l n A u ≤ 31) (him : imq n A u (J (b + 1)) (x * 25)) (hw : wt n A u.reverse (J (b + 3 + 1)) (x * 5)) : ∃ (v : Int32) (J' : hJ), e74 F b (nI x) (nI t) (mkH (hs l s d tl) I J) = some (v, (mkH (hs l s d tl) I J')) ∧ ((v = gI 1 ∧ dn n A u t) ∨ (v = nI 1 ∧ ¬ dn n A u t)) ∧ wt n A (t :: u.reverse) (J' (b + 2)) 0 ∧ ∀ c, c ≠ b + 2 → J' c = J c := by
  have hS := h.2.2.2
  have b54 := hS.2.2.2.2.2.1
  have hok := hg.1
  have hn5 := hg.2.2.1
  have hr := him t ht
  have e0 : e74 F b (nI x) (nI t) (mkH (hs l s d tl) I J) = m74_15 F F b (nI x) (nI (x * 25 + t * 5)) (nI 1) (nI 0) (mkH (hs l s d tl) I J) := by
    show m74_0 F b (nI x) (nI t) _ = _
    unfold m74_0
    rw [n_25, n_5, pk_mul, pk_mul, nI_add]
    rfl
  rw [e0]
  have inn : ∀ (rc : Nat → Int32 → Int32 → Int32 → Int32 → List mE → Option (Int32 × List mE)) (v4 : Int32) (j : Nat) (J1 : hJ), j < n → (∀ c, c ≠ b + 2 → J1 c = J c) → m74_33 F rc F b (nI x) (nI (x * 25 + t * 5)) v4 (nI j) 0 (nI 0) (mkH (hs l s d tl) I J1) = rc b (nI x) (nI (x * 25 + t * 5)) (if J (b + 1) (x * 25 + t * 5 + j) < 0 then gI 1 else v4) (nI (j + 1)) (mkH (hs l s d tl) I (upJ J1 (b + 2) j (J (b + 3 + 1) (x * 5 + j) - sJ n (fun k => zJ (A j k) * J (b + 1) (x * 25 + t * 5 + k))))) := by
    intro rc v4 j J1 hj hJ1
    refine lpc (σ := Int64) (R := Option (Int32 × List mE)) (fun f k v6 => m74_33 F rc f b (nI x) (nI (x * 25 + t * 5)) v4 (nI j) v6 (nI k) (mkH (hs l s d tl) I J1)) n (fun k v6 => v6 = sJ k (fun k => zJ (A j k) * J (b + 1) (x * 25 + t * 5 + k))) (fun r => r = rc b (nI x) (nI (x * 25 + t * 5)) (if J (b + 1) (x * 25 + t * 5 + j) < 0 then gI 1 else v4) (nI (j + 1)) (mkH (hs l s d tl) I (upJ J1 (b + 2) j (J (b + 3 + 1) (x * 5 + j) - sJ n (fun k => zJ (A j k) * J (b + 1) (x * 25 + t * 5 + k)))))) ?_ ?_ F 0 0 (by omega) (by omega) rfl
    · intro f v6 hv6
      have e1 : upJ J1 (b + 2) j (J1 (b + 3 + 1) (x * 5 + j) - v6) (b + 1) (x * 25 + t * 5 + j) = J (b + 1) (x * 25 + t * 5 + j) := by rw [upJ_ne (by omega), hJ1 _ (by omega)]
      have m1 : m74_33 F rc (f + 1) b (nI x) (nI (x * 25 + t * 5)) v4 (nI j) v6 (nI n) (mkH (hs l s d tl) I J1) = if mc1 .ge (lg_cmp (J (b + 1) (x * 25 + t * 5 + j)) 0) = true then m74_123 F rc b (nI x) (nI (x * 25 + t * 5)) v4 (nI j) (mkH (hs l s d tl) I (upJ J1 (b + 2) j (J1 (b + 3 + 1) (x * 5 + j) - v6))) else m74_123 F rc b (nI x) (nI (x * 25 + t * 5)) (-1) (nI j) (mkH (hs l s d tl) I (upJ J1 (b + 2) j (J1 (b + 3 + 1) (x * 5 + j) - v6))) := by
        rw [m74_33, si0 h, Option.bind_some, gi1_0, Option.bind_some, hg.2.2.2.1, if_pos (show mc2 .ge (nI n) (nI n) = true by rw [c_ge (by omega) (by omega)]; omega), si4 h, Option.bind_some, si2 h, Option.bind_some, s3 hS, Option.bind_some, n_5, pk_mul, nI_add, rdJ_H hS.2.1 (by omega) (by omega), Option.bind_some, wrJ_H h.2.2.1 (by omega) (by omega), Option.bind_some, si3 h, Option.bind_some, nI_add, rdJ_H h.2.1 (by omega) (by omega), Option.bind_some, e1]
      show m74_33 F rc (f + 1) b (nI x) (nI (x * 25 + t * 5)) v4 (nI j) v6 (nI n) (mkH (hs l s d tl) I J1) = _
      have hv6 : v6 = _ := hv6
      rw [m1, hv6, hJ1 (b + 3 + 1) (by omega)]
      unfold m74_123
      rw [n_1, nI_add]
      by_cases hlt : J (b + 1) (x * 25 + t * 5 + j) < 0
      · rw [if_neg (show ¬ mc1 .ge (lg_cmp (J (b + 1) (x * 25 + t * 5 + j)) 0) = true by rw [k_ge]; exact fun hh => hh hlt), if_pos hlt]
        rfl
      · rw [if_pos (show mc1 .ge (lg_cmp (J (b + 1) (x * 25 + t * 5 + j)) 0) = true by rw [k_ge]; exact hlt), if_neg hlt]
    · intro f k v6 hk hv6
      right
      refine ⟨_, ?_, rfl⟩
      have hv6 : v6 = _ := hv6
      show m74_33 F rc (f + 1) b (nI x) (nI (x * 25 + t * 5)) v4 (nI j) v6 (nI k) (mkH (hs l s d tl) I J1) = _
      rw [m74_33, si0 h, Option.bind_some, gi1_0, Option.bind_some, hg.2.2.2.1, if_neg (show ¬ mc2 .ge (nI k) (nI n) = true by rw [c_ge (by omega) (by omega)]; omega), Option.bind_some, gr1_2, Option.bind_some, n_5, pk_mul, nI_add, rI3 (by omega), Option.bind_some, si3 h, Option.bind_some, nI_add, rdJ_H h.2.1 (by omega) (by omega), Option.bind_some, cl_A hg hj hk, n_1, nI_add, hJ1 (b + 1) (by omega), hv6]
      rfl
  have val : ∀ j, j < n → J (b + 3 + 1) (x * 5 + j) - sJ n (fun k => zJ (A j k) * J (b + 1) (x * 25 + t * 5 + k)) = zJ (cx_h n A (t :: u.reverse) j) := by
    intro j hj
    rw [cx_h_cons (cx_L_rev uL) ht hj, List.reverse_reverse, hw j hj, sJ_z (g := fun k => A j k * cx_x n A u (cx_e t) k) (fun k hk => by rw [hr k hk, zJ_mul]), zJ_sub]
  refine lpc (σ := Int32 × hJ) (R := Option (Int32 × List mE)) (fun f j y => m74_15 F f b (nI x) (nI (x * 25 + t * 5)) y.1 (nI j) (mkH (hs l s d tl) I y.2)) n (fun j y => ((y.1 = gI 1 ∧ ∃ i, i < j ∧ J (b + 1) (x * 25 + t * 5 + i) < 0) ∨ (y.1 = nI 1 ∧ ¬ ∃ i, i < j ∧ J (b + 1) (x * 25 + t * 5 + i) < 0)) ∧ (∀ i, i < j → y.2 (b + 2) i = zJ (cx_h n A (t :: u.reverse) i)) ∧ ∀ c, c ≠ b + 2 → y.2 c = J c) (fun r => ∃ (v : Int32) (J' : hJ), r = some (v, (mkH (hs l s d tl) I J')) ∧ ((v = gI 1 ∧ dn n A u t) ∨ (v = nI 1 ∧ ¬ dn n A u t)) ∧ wt n A (t :: u.reverse) (J' (b + 2)) 0 ∧ ∀ c, c ≠ b + 2 → J' c = J c) ?_ ?_ F 0 (nI 1, J) (by omega) (by omega) ⟨Or.inr ⟨rfl, fun ⟨i, hi, _⟩ => by omega⟩, fun i hi => by omega, fun _ _ => rfl⟩
  · rintro f ⟨v, J1⟩ ⟨y1, y2, y3⟩
    have dnq := x_dn hok uL ul ht hr
    refine ⟨v, J1, ?_, ?_, fun j hj => by rw [Nat.zero_add]; exact y2 j hj, y3⟩
    · show m74_15 F (f + 1) b (nI x) (nI (x * 25 + t * 5)) v (nI n) (mkH (hs l s d tl) I J1) = _
      rw [m74_15, si0 h, Option.bind_some, gi1_0, Option.bind_some, hg.2.2.2.1, if_pos (show mc2 .ge (nI n) (nI n) = true by rw [c_ge (by omega) (by omega)]; omega)]
    · rcases y1 with ⟨a1, a2⟩ | ⟨a1, a2⟩
      · exact Or.inl ⟨a1, dnq.mp a2⟩
      · exact Or.inr ⟨a1, fun hh => a2 (dnq.mpr hh)⟩
  · rintro f j ⟨v, J1⟩ hj ⟨y1, y2, y3⟩
    right
    have y3 : ∀ c, c ≠ b + 2 → J1 c = J c := y3
    refine ⟨(if J (b + 1) (x * 25 + t * 5 + j) < 0 then gI 1 else v, upJ J1 (b + 2) j (J (b + 3 + 1) (x * 5 + j) - sJ n (fun k => zJ (A j k) * J (b + 1) (x * 25 + t * 5 + k)))), ?_, ?_, fun i hi => ?_, fun c hc => by show upJ J1 (b + 2) j _ c = _; rw [upJ_ne hc]; exact y3 c hc⟩
    · show m74_15 F (f + 1) b (nI x) (nI (x * 25 + t * 5)) v (nI j) (mkH (hs l s d tl) I J1) = _
      rw [m74_15, si0 h, Option.bind_some, gi1_0, Option.bind_some, hg.2.2.2.1, if_neg (show ¬ mc2 .ge (nI j) (nI n) = true by rw [c_ge (by omega) (by omega)]; omega)]
      exact inn (m74_15 F f) v j J1 hj y3
    · by_cases hlt : J (b + 1) (x * 25 + t * 5 + j) < 0
      · exact Or.inl ⟨if_pos hlt, j, by omega, hlt⟩
      · show ((if J (b + 1) (x * 25 + t * 5 + j) < 0 then gI 1 else v) = gI 1 ∧ _) ∨ ((if J (b + 1) (x * 25 + t * 5 + j) < 0 then gI 1 else v) = nI 1 ∧ _)
        rw [if_neg hlt]
        rcases y1 with ⟨a1, i, a2, a3⟩ | ⟨a1, a2⟩
        · exact Or.inl ⟨a1, i, by omega, a3⟩
        · refine Or.inr ⟨a1, fun ⟨i, hi, h1⟩ => ?_⟩
          by_cases hij : i = j
          · rw [hij] at h1
            exact hlt h1
          · exact a2 ⟨i, by omega, h1⟩
    · show upJ J1 (b + 2) j _ (b + 2) i = _
      rw [upJ_at]
      by_cases hij : i = j
      · rw [if_pos hij, hij]
        exact val j hj
      · rw [if_neg hij]
        exact y2 i (by omega)
/-- drawImages -/
theorem dri_e (h : siS (hs l s d tl) b) (hg : cl_n n A I) (hF : 9000 ≤ F) {x t y : Nat} (hx : x < y) (hy : y < 300) (ht : t < n) {u : List Nat} (him : imq n A u (J (b + 1)) (x * 25)) : ∃ J' : hJ, e75 F b (nI x) (nI t) (nI y) (mkH (hs l s d tl) I J) = some ((), (mkH (hs l s d tl) I J')) ∧ imq n A (t :: (u ++ [t])) (J' (b + 1)) (y * 25) ∧ (∀ c, c ≠ b + 1 → J' c = J c) ∧ ∀ q, q < y * 25 → J' (b + 1) q = J (b + 1) q := by
  have hn5 := hg.2.2.1
  have b54 := h.2.2.2.2.2.2.2.2.1
  have e0 : e75 F b (nI x) (nI t) (nI y) (mkH (hs l s d tl) I J) = m75_13 F F b (nI x) (nI t) (nI y) (nI (x * 25 + t * 5)) (nI 0) (mkH (hs l s d tl) I J) := by
    show m75_0 F b (nI x) (nI t) (nI y) _ = _
    unfold m75_0
    rw [n_25, n_5, pk_mul, pk_mul, nI_add]
    rfl
  rw [e0]
  refine lpc (σ := hJ) (R := Option (Unit × List mE)) (fun f i J1 => m75_13 F f b (nI x) (nI t) (nI y) (nI (x * 25 + t * 5)) (nI i) (mkH (hs l s d tl) I J1)) n (fun i J1 => (∀ i', i' < i → rt n A (t :: (u ++ [t])) i' (J1 (b + 1)) (y * 25 + i' * 5)) ∧ (∀ c, c ≠ b + 1 → J1 c = J c) ∧ ∀ q, q < y * 25 → J1 (b + 1) q = J (b + 1) q) (fun r => ∃ J' : hJ, r = some ((), (mkH (hs l s d tl) I J')) ∧ imq n A (t :: (u ++ [t])) (J' (b + 1)) (y * 25) ∧ (∀ c, c ≠ b + 1 → J' c = J c) ∧ ∀ q, q < y * 25 → J' (b + 1) q = J (b + 1) q) ?_ ?_ F 0 J (by omega) (by omega) ⟨fun i' hi' => by omega, fun _ _ => rfl, fun _ _ => rfl⟩
  · rintro f J1 ⟨y1, y2, y3⟩
    refine ⟨J1, ?_, y1, y2, y3⟩
    show m75_13 F (f + 1) b (nI x) (nI t) (nI y) (nI (x * 25 + t * 5)) (nI n) (mkH (hs l s d tl) I J1) = _
    rw [m75_13, si0 h, Option.bind_some, gi1_0, Option.bind_some, hg.2.2.2.1, if_pos (show mc2 .ge (nI n) (nI n) = true by rw [c_ge (by omega) (by omega)]; omega)]
  · rintro f i J1 hi ⟨y1, y2, y3⟩
    right
    have inn : m75_67 F (m75_13 F f) F b (nI x) (nI t) (nI y) (nI (x * 25 + t * 5)) (nI i) (nI (x * 25 + i * 5)) (nI (y * 25 + i * 5)) (zJ (A t i)) (nI 0) (mkH (hs l s d tl) I J1) = ((e39 F 1 (b + 1) (nI (y * 25 + i * 5)) (nI t) (mkH (hs l s d tl) I (rwJ J1 (b + 1) (y * 25 + i * 5) n (fun k => J (b + 1) (x * 25 + i * 5 + k) - zJ (A t i) * J (b + 1) (x * 25 + t * 5 + k))))).bind fun q6 => m75_13 F f b (nI x) (nI t) (nI y) (nI (x * 25 + t * 5)) (nI (i + 1)) q6.2) := by
      have key : ∀ (f2 k : Nat) (z : Unit), k ≤ n → n < k + f2 → True → m75_67 F (m75_13 F f) f2 b (nI x) (nI t) (nI y) (nI (x * 25 + t * 5)) (nI i) (nI (x * 25 + i * 5)) (nI (y * 25 + i * 5)) (zJ (A t i)) (nI k) (mkH (hs l s d tl) I (rwJ J1 (b + 1) (y * 25 + i * 5) k (fun k => J (b + 1) (x * 25 + i * 5 + k) - zJ (A t i) * J (b + 1) (x * 25 + t * 5 + k)))) = ((e39 F 1 (b + 1) (nI (y * 25 + i * 5)) (nI t) (mkH (hs l s d tl) I (rwJ J1 (b + 1) (y * 25 + i * 5) n (fun k => J (b + 1) (x * 25 + i * 5 + k) - zJ (A t i) * J (b + 1) (x * 25 + t * 5 + k))))).bind fun q6 => m75_13 F f b (nI x) (nI t) (nI y) (nI (x * 25 + t * 5)) (nI (i + 1)) q6.2) := by
       refine lpc (σ := Unit) (R := Option (Unit × List mE)) (fun f2 k _ => m75_67 F (m75_13 F f) f2 b (nI x) (nI t) (nI y) (nI (x * 25 + t * 5)) (nI i) (nI (x * 25 + i * 5)) (nI (y * 25 + i * 5)) (zJ (A t i)) (nI k) (mkH (hs l s d tl) I (rwJ J1 (b + 1) (y * 25 + i * 5) k (fun k => J (b + 1) (x * 25 + i * 5 + k) - zJ (A t i) * J (b + 1) (x * 25 + t * 5 + k))))) n (fun _ _ => True) (fun r => r = ((e39 F 1 (b + 1) (nI (y * 25 + i * 5)) (nI t) (mkH (hs l s d tl) I (rwJ J1 (b + 1) (y * 25 + i * 5) n (fun k => J (b + 1) (x * 25 + i * 5 + k) - zJ (A t i) * J (b + 1) (x * 25 + t * 5 + k))))).bind fun q6 => m75_13 F f b (nI x) (nI t) (nI y) (nI (x * 25 + t * 5)) (nI (i + 1)) q6.2)) ?_ ?_
       · intro f2 _ _
         show m75_67 F (m75_13 F f) (f2 + 1) _ _ _ _ _ _ _ _ _ _ _ = _
         rw [m75_67, si0 h, Option.bind_some, gi1_0, Option.bind_some, hg.2.2.2.1, if_pos (show mc2 .ge (nI n) (nI n) = true by rw [c_ge (by omega) (by omega)]; omega), Option.bind_some, si3 h, Option.bind_some, rc1, Option.bind_some, n_1, nI_add]
       · intro f2 k _ hk _
         right
         refine ⟨(), ?_, trivial⟩
         show m75_67 F (m75_13 F f) (f2 + 1) _ _ _ _ _ _ _ _ _ _ _ = _
         have o1 : rwJ J1 (b + 1) (y * 25 + i * 5) k (fun k => J (b + 1) (x * 25 + i * 5 + k) - zJ (A t i) * J (b + 1) (x * 25 + t * 5 + k)) (b + 1) (x * 25 + i * 5 + k) = J (b + 1) (x * 25 + i * 5 + k) := by rw [rwJ_out (Or.inl (by omega))]; exact y3 _ (by omega)
         have o2 : rwJ J1 (b + 1) (y * 25 + i * 5) k (fun k => J (b + 1) (x * 25 + i * 5 + k) - zJ (A t i) * J (b + 1) (x * 25 + t * 5 + k)) (b + 1) (x * 25 + t * 5 + k) = J (b + 1) (x * 25 + t * 5 + k) := by rw [rwJ_out (Or.inl (by omega))]; exact y3 _ (by omega)
         rw [m75_67, si0 h, Option.bind_some, gi1_0, Option.bind_some, hg.2.2.2.1, if_neg (show ¬ mc2 .ge (nI k) (nI n) = true by rw [c_ge (by omega) (by omega)]; omega), si3 h, Option.bind_some, Option.bind_some, nI_add, rdJ_H h.2.1 (by omega) (by omega), Option.bind_some, Option.bind_some, nI_add, rdJ_H h.2.1 (by omega) (by omega), Option.bind_some, nI_add, wrJ_H h.2.1 (by omega) (by omega), Option.bind_some, n_1, nI_add, o1, o2]
         have := upJ_rw (J := J1) (b := b + 1) (o := y * 25 + i * 5) (k := k) (f := fun k => J (b + 1) (x * 25 + i * 5 + k) - zJ (A t i) * J (b + 1) (x * 25 + t * 5 + k))
         rw [this]
      have hh := key F 0 () (by omega) (by omega) trivial
      rw [rwJ_0] at hh
      exact hh
    have r1 : rt n A (u ++ [t]) i (rwJ J1 (b + 1) (y * 25 + i * 5) n (fun k => J (b + 1) (x * 25 + i * 5 + k) - zJ (A t i) * J (b + 1) (x * 25 + t * 5 + k)) (b + 1)) (y * 25 + i * 5) := by
      intro k hk
      rw [rwJ_in hk, him i hi k hk, him t ht k hk, cx_x_turn hi, zJ_mul, zJ_sub]
    have e39 := tr_e (l := l) (s := s) (d := d) (tl := tl) (F := F) (I := I) (J := rwJ J1 (b + 1) (y * 25 + i * 5) n (fun k => J (b + 1) (x * 25 + i * 5 + k) - zJ (A t i) * J (b + 1) (x * 25 + t * 5 + k))) (p := y * 25 + i * 5) hg (by omega) h.2.1 (by omega) (by omega) ht
    have r2 := rt_turn r1 ht
    have o1 : ∀ q, (q < y * 25 + i * 5 ∨ y * 25 + i * 5 + n ≤ q) → rwJ J1 (b + 1) (y * 25 + i * 5) n (fun k => J (b + 1) (x * 25 + i * 5 + k) - zJ (A t i) * J (b + 1) (x * 25 + t * 5 + k)) (b + 1) q = J1 (b + 1) q := fun q hq => rwJ_out (by omega)
    have o2 : ∀ c, c ≠ b + 1 → rwJ J1 (b + 1) (y * 25 + i * 5) n (fun k => J (b + 1) (x * 25 + i * 5 + k) - zJ (A t i) * J (b + 1) (x * 25 + t * 5 + k)) c = J1 c := fun c hc => rwJ_ne hc
    generalize rwJ J1 (b + 1) (y * 25 + i * 5) n (fun k => J (b + 1) (x * 25 + i * 5 + k) - zJ (A t i) * J (b + 1) (x * 25 + t * 5 + k)) = J2 at *
    have out : ∀ q, (q < y * 25 + i * 5 ∨ y * 25 + i * 5 + n ≤ q) → upJ J2 (b + 1) (y * 25 + i * 5 + t) (J2 (b + 1) (y * 25 + i * 5 + t) - sJ n (fun j => zJ (A t j) * J2 (b + 1) (y * 25 + i * 5 + j))) (b + 1) q = J1 (b + 1) q := by
      intro q hq
      rw [upJ_at, if_neg (by omega), o1 q hq]
    refine ⟨upJ J2 (b + 1) (y * 25 + i * 5 + t) (J2 (b + 1) (y * 25 + i * 5 + t) - sJ n (fun j => zJ (A t j) * J2 (b + 1) (y * 25 + i * 5 + j))), ?_, fun i' hi' => ?_, fun c hc => ?_, fun q hq => ?_⟩
    · show m75_13 F (f + 1) b (nI x) (nI t) (nI y) (nI (x * 25 + t * 5)) (nI i) (mkH (hs l s d tl) I J1) = _
      rw [m75_13, si0 h, Option.bind_some, gi1_0, Option.bind_some, hg.2.2.2.1, if_neg (show ¬ mc2 .ge (nI i) (nI n) = true by rw [c_ge (by omega) (by omega)]; omega), Option.bind_some, gr1_2, Option.bind_some, n_5, pk_mul, nI_add, rI3 (by omega), Option.bind_some, cl_A hg ht hi, n_25, pk_mul, pk_mul, pk_mul, nI_add, nI_add]
      refine Eq.trans inn ?_
      rw [e39, Option.bind_some]
    · by_cases hii : i' = i
      · subst hii
        exact r2
      · intro k hk
        rw [out _ (by omega)]
        exact y1 i' (by omega) k hk
    · rw [upJ_ne hc, o2 c hc]
      exact y2 c hc
    · rw [out q (by omega)]
      exact y3 q hq
end S
