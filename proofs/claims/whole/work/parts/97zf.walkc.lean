/-! The class: Paths. -/
section S
variable {l s d : Value} {tl : List hQ} {F : Nat} {I : hI} {J : hJ} {n : Nat} {A : Nat → Nat → Int} {els : List (List Nat)} {y : List Nat} {w : Nat}
theorem qn_z (p a : Nat) {f : Nat → Int} (h : ∀ k, f k = 0) : qn p f a = 0 := by
  rw [qn_at, h]
  split <;> rfl
theorem nI_z1 (a : Nat) : nI (a + 1) - 1 = nI a := pk_sub1 a
/-- walk -/
theorem wk49 (hc : cl_n n A I) (hk : kp n A els I J) (hF : 9000 ≤ F) (hy : els[w]? = some y) (h8 : y.length ≤ 8) : ∀ (m g : Nat) (u : List Nat) (p : Nat) (I1 : hI) (J1 : hJ), m ≤ y.length → m < g → p + m ≤ 8 → cx_L n u → cx_l n A u ≤ 22 → (∀ c, c ≠ 24 → I1 c = I c) → (∀ c, c ≠ 23 → J1 c = J c) → wt n A u (J1 23) (m * 5) → ∃ (I2 : hI) (J2 : hJ), e49 F g 22 (nI w) (nI m) (nI (cx_l n A u)) (nI p) (mkH (hs l s d tl) I1 J1) = some ((), (mkH (hs l s d tl) I2 J2)) ∧ (∀ a, a < 9 → I2 24 a = I1 24 a + zI (qn p (pth n A (y.take m).reverse u) a)) ∧ (∀ c, c ≠ 24 → I2 c = I1 c) ∧ (∀ c, c ≠ 23 → J2 c = J1 c) ∧ ∀ q, m * 5 ≤ q → J2 23 q = J1 23 q := by
  have hok := hc.1
  have hn5 := hc.2.2.1
  obtain ⟨yc, yL, yl, y20, b40, yb⟩ := kp_c hk hy
  have big : ∀ (m g : Nat) (u : List Nat) (p : Nat) (I1 : hI) (J1 : hJ), m ≤ y.length → cx_L n u → cx_l n A u ≤ 22 → m < cx_l n A u → ∃ (I2 : hI) (J2 : hJ), e49 F (g + 1) 22 (nI w) (nI m) (nI (cx_l n A u)) (nI p) (mkH (hs l s d tl) I1 J1) = some ((), (mkH (hs l s d tl) I2 J2)) ∧ (∀ a, a < 9 → I2 24 a = I1 24 a + zI (qn p (pth n A (y.take m).reverse u) a)) ∧ (∀ c, c ≠ 24 → I2 c = I1 c) ∧ (∀ c, c ≠ 23 → J2 c = J1 c) ∧ ∀ q, m * 5 ≤ q → J2 23 q = J1 23 q := by
    intro m g u p I1 J1 hm hu hu22 hlt
    refine ⟨I1, J1, ?_, fun a ha => ?_, fun _ _ => rfl, fun _ _ => rfl, fun _ _ => rfl⟩
    · show m49_0 F (e49 F g) 22 _ _ _ _ _ = _
      unfold m49_0 m49_11
      rw [if_pos (show mc2 .gt (nI (cx_l n A u)) (nI m) = true by rw [c_gt (by omega) (by omega)]; omega)]
    · have : ∀ a, pth n A (y.take m).reverse u a = 0 := fun a => pth_0 hok _ (cx_L_rev (take_L yL m)) u hu a (by rw [List.length_reverse, List.length_take]; omega)
      rw [qn_z p a this]
      show _ = _ + (0 : Int32)
      rw [Int32.add_zero]
  intro m
  induction m with
  | zero =>
    intro g u p I1 J1 hm hg hp hu hu22 hI1 hJ1 hw
    obtain ⟨g, rfl⟩ : ∃ g', g = g' + 1 := ⟨g - 1, by omega⟩
    by_cases hlt : 0 < cx_l n A u
    · exact big 0 g u p I1 J1 hm hu hu22 hlt
    · have h0 : cx_l n A u = 0 := by omega
      refine ⟨upI I1 24 p (I1 24 p + 1), J1, ?_, fun a ha => ?_, fun c hc => upI_ne hc, fun _ _ => rfl, fun _ _ => rfl⟩
      · show m49_0 F (e49 F g) 22 _ _ _ _ _ = _
        unfold m49_0
        rw [h0, if_neg (show ¬ mc2 .gt (nI 0) (nI 0) = true by decide), if_pos (show mc2 .le (nI 0) 8 = true by decide), if_neg (show ¬ mc1 .ne (nI 0) = true by decide), gr22_3, Option.bind_some, rI24 (by omega), Option.bind_some, wI24 (by omega), Option.bind_some]
      · rw [upI_at, List.take_zero, qn_at]
        have e : ∀ k, pth n A [] u k = if k = 0 then 1 else 0 := fun k => cii_p h0
        by_cases hap : a = p
        · rw [if_pos hap, hap, if_neg (by omega)]
          show _ = _ + zI (pth n A [] u (p - p))
          rw [e, if_pos (by omega)]
          rfl
        · rw [if_neg hap]
          by_cases hlt2 : a < p
          · rw [if_pos hlt2]
            show _ = _ + (0 : Int32)
            rw [Int32.add_zero]
          · rw [if_neg hlt2]
            show _ = _ + zI (pth n A [] u (a - p))
            rw [e, if_neg (by omega)]
            show _ = _ + (0 : Int32)
            rw [Int32.add_zero]
  | succ m ih =>
    intro g u p I1 J1 hm hg hp hu hu22 hI1 hJ1 hw
    obtain ⟨g, rfl⟩ : ∃ g', g = g' + 1 := ⟨g - 1, by omega⟩
    by_cases hlt : m + 1 < cx_l n A u
    · exact big (m + 1) g u p I1 J1 hm hu hu22 hlt
    · obtain ⟨t, ht⟩ := ex_at (show m < y.length by omega)
      have htn := cx_L_at yL ht
      have er : (y.take (m + 1)).reverse = t :: (y.take m).reverse := by rw [take_c ht, List.reverse_append]; rfl
      have g1 : cl_n n A I1 := cl_fr hc (hI1 1 (by decide)) (hI1 3 (by decide))
      have k1 : kp n A els I1 J1 := kp_fr hk (hI1 8 (by decide)) (hI1 9 (by decide)) (hI1 10 (by decide)) (hJ1 11 (by decide)) (hJ1 12 (by decide))
      have e17 := lo_e (l := l) (s := s) (d := d) (tl := tl) (F := F) k1 hy ht
      have dnq := wt_dn hok hu (by omega) hw htn
      have utL : cx_L n (u ++ [t]) := cx_L_app hu (cx_L_1 htn)
      have e5 : nI m * 5 = nI (m * 5) := by rw [n_5, pk_mul]
      have e5' : nI (m + 1) * 5 = nI ((m + 1) * 5) := by rw [n_5, pk_mul]
      have e42 := cr_e (l := l) (s := s) (d := d) (tl := tl) (F := F) (I := I1) (J := J1) (o := (m + 1) * 5) (p := m * 5) g1.2.2.2.1 hn5 (by omega) q23 q23 (by omega) (by omega) (by omega) (by omega) (Or.inr (Or.inl (by omega)))
      have w2 : wt n A u (rwJ J1 23 (m * 5) n (fun j => J1 23 ((m + 1) * 5 + j)) 23) (m * 5) := wt_cp hw
      have o2 : ∀ q, (m + 1) * 5 ≤ q → rwJ J1 23 (m * 5) n (fun j => J1 23 ((m + 1) * 5 + j)) 23 q = J1 23 q := fun q hq => rwJ_out (Or.inr (by omega))
      have c2 : ∀ c, c ≠ 23 → rwJ J1 23 (m * 5) n (fun j => J1 23 ((m + 1) * 5 + j)) c = J1 c := fun c hc => rwJ_ne hc
      generalize rwJ J1 23 (m * 5) n (fun j => J1 23 ((m + 1) * 5 + j)) = J2 at *
      have pre : ∀ z : Int32, (z = 0 ∧ ¬ dn n A u t) ∨ (z = 1 ∧ dn n A u t) → e49 F (g + 1) 22 (nI w) (nI (m + 1)) (nI (cx_l n A u)) (nI p) (mkH (hs l s d tl) I1 J1) = if mc1 .ne z = true then m49_107 F (e49 F g) 22 (nI w) (nI (m + 1)) (nI (cx_l n A u)) (nI p) (nI t) (nI (m * 5)) z (mkH (hs l s d tl) I1 J2) else (e49 F g 22 (nI w) (nI m) (nI (cx_l n A u)) (nI p) (mkH (hs l s d tl) I1 J2)).bind fun q7 => m49_107 F (e49 F g) 22 (nI w) (nI (m + 1)) (nI (cx_l n A u)) (nI p) (nI t) (nI (m * 5)) z q7.2 := by
        intro z hz
        show m49_0 F (e49 F g) 22 _ _ _ _ _ = _
        unfold m49_0
        rw [if_neg (show ¬ mc2 .gt (nI (cx_l n A u)) (nI (m + 1)) = true by rw [c_gt (by omega) (by omega)]; omega), if_pos (show mc2 .le (nI (m + 1)) 8 = true by rw [show (8 : Int32) = nI 8 from rfl, c_le (by omega) (by omega)]; omega), if_pos (show mc1 .ne (nI (m + 1)) = true by rw [d_ne (by omega)]; omega), gr22_1, Option.bind_some, rc8, Option.bind_some, nI_z1, e17, Option.bind_some, gr22_2, Option.bind_some, e5', nI_add, rJ23 (by omega), Option.bind_some, e5]
        rcases hz with ⟨rfl, hd⟩ | ⟨rfl, hd⟩
        · rw [if_pos (show mc1 .ge (lg_cmp (J1 23 ((m + 1) * 5 + t)) 0) = true by rw [k_ge]; exact fun hh => hd (dnq.mp hh))]
          unfold m49_69
          rw [gr22_0, Option.bind_some, gr22_2, Option.bind_some, Option.bind_some, rc1, Option.bind_some, e5', e42, Option.bind_some, nI_z1]
        · rw [if_neg (show ¬ mc1 .ge (lg_cmp (J1 23 ((m + 1) * 5 + t)) 0) = true by rw [k_ge]; exact fun hh => hh (dnq.mpr hd))]
          unfold m49_69
          rw [gr22_0, Option.bind_some, gr22_2, Option.bind_some, Option.bind_some, rc1, Option.bind_some, e5', e42, Option.bind_some, nI_z1]
      have tw : ∀ (I3 : hI) (J3 : hJ), (∀ c, c ≠ 24 → I3 c = I c) → ∃ J4 : hJ, e41 F 1 23 (nI (m * 5)) (nI t) (mkH (hs l s d tl) I3 J3) = some ((), (mkH (hs l s d tl) I3 J4)) ∧ (wt n A u (J3 23) (m * 5) → wt n A (u ++ [t]) (J4 23) (m * 5)) ∧ (∀ c, c ≠ 23 → J4 c = J3 c) ∧ ∀ q, (m + 1) * 5 ≤ q → J4 23 q = J3 23 q := by
        intro I3 J3 hI3
        have g3 : cl_n n A I3 := cl_fr hc (hI3 1 (by decide)) (hI3 3 (by decide))
        refine ⟨_, tw_e (l := l) (s := s) (d := d) (tl := tl) (F := F) (I := I3) (J := J3) (p := m * 5) g3 (by omega) q23 (by omega) (by omega) htn, fun hw3 => wt_turn hw3 htn, fun c hc => rwJ_ne hc, fun q hq => rwJ_out (Or.inr (by omega))⟩
      by_cases hd : dn n A u t
      · have l1 := dn_1 hok hu htn hd
        obtain ⟨J4, e4, w4, c4, o4⟩ := tw I1 J2 hI1
        obtain ⟨I5, J5, e6, r1, r2, r3, r4⟩ := ih g (u ++ [t]) p I1 J4 (by omega) (by omega) (by omega) utL (by omega) hI1 (fun c hc => by rw [c4 c hc, c2 c hc, hJ1 c hc]) (w4 w2)
        refine ⟨I5, J5, ?_, fun a ha => ?_, r2, fun c hc => by rw [r3 c hc, c4 c hc, c2 c hc], fun q hq => by rw [r4 q (by omega), o4 q hq, o2 q hq]⟩
        · rw [pre 1 (Or.inr ⟨rfl, hd⟩), if_pos (show mc1 .ne 1 = true by decide)]
          unfold m49_107 m49_141 m49_155
          rw [gr22_0, Option.bind_some, gr22_2, Option.bind_some, rc1, Option.bind_some, e4, Option.bind_some, if_neg (show ¬ mc1 .eq 1 = true by decide), if_neg (show ¬ mc1 .eq 1 = true by decide), nI_z1, ← l1, nI_z1, e6, Option.bind_some]
        · rw [r1 a ha, er, qn_cg (show ∀ k, pth n A (t :: (y.take m).reverse) u k = pth n A (y.take m).reverse (u ++ [t]) k from fun k => cii_p hd)]
      · have up := up_1 hok hu htn hd
        obtain ⟨I3, J3, e3, r1, r2, r3, r4⟩ := ih g u p I1 J2 (by omega) (by omega) (by omega) hu hu22 hI1 (fun c hc => by rw [c2 c hc, hJ1 c hc]) w2
        have hI3 : ∀ c, c ≠ 24 → I3 c = I c := fun c hc => by rw [r2 c hc, hI1 c hc]
        have w3 : wt n A u (J3 23) (m * 5) := fun j hj => by rw [r4 _ (by omega)]; exact w2 j hj
        obtain ⟨J4, e4, w4, c4, o4⟩ := tw I3 J3 hI3
        obtain ⟨I5, J5, e6, x1, x2, x3, x4⟩ := ih g (u ++ [t]) (p + 1) I3 J4 (by omega) (by omega) (by omega) utL (by omega) hI3 (fun c hc => by rw [c4 c hc, r3 c hc, c2 c hc, hJ1 c hc]) (w4 w3)
        refine ⟨I5, J5, ?_, fun a ha => ?_, fun c hc => by rw [x2 c hc, r2 c hc], fun c hc => by rw [x3 c hc, c4 c hc, r3 c hc, c2 c hc], fun q hq => by rw [x4 q (by omega), o4 q hq, r4 q (by omega), o2 q hq]⟩
        · rw [pre 0 (Or.inl ⟨rfl, hd⟩), if_neg (show ¬ mc1 .ne 0 = true by decide), e3, Option.bind_some]
          unfold m49_107 m49_141 m49_155
          rw [gr22_0, Option.bind_some, gr22_2, Option.bind_some, rc1, Option.bind_some, e4, Option.bind_some, if_pos (show mc1 .eq 0 = true by decide), if_pos (show mc1 .eq 0 = true by decide), nI_z1, n_1, nI_add, nI_add, ← up, e6, Option.bind_some]
        · have e7 : ∀ k, pth n A (t :: (y.take m).reverse) u k = pth n A (y.take m).reverse u k + qs (pth n A (y.take m).reverse (u ++ [t])) k := fun k => cii_n hd
          have e8 : ∀ (p a : Nat) (f g : Nat → Int), qn p (fun k => f k + g k) a = qn p f a + qn p g a := by
            intro p a f g
            rw [qn_at, qn_at, qn_at]
            split <;> rfl
          rw [x1 a ha, r1 a ha, er, qn_cg e7, e8, qn_qs, Int32.add_assoc, zI_add]
          rfl
/-- the numbers of (q - 1) to the m, as they are made -/
def pbn (m k i : Nat) : Int32 := if (m - k) % 2 = 0 then nI (bn m i) else - nI (bn m i)
theorem pb_1 : ∀ m, m < 9 → ∀ k, k < 9 → k ≤ m → ∀ i, i < 8 → (pbn m k i * ((nI m - nI (i + 1)) + 1)) / nI (i + 1) = pbn m k (i + 1) := by decide +kernel
theorem pb_2 : ∀ m, m < 9 → ∀ k, k < 9 → k ≤ m → pbn m k k = zI (pw m k) := by decide +kernel
theorem pb_3 : ∀ m, m < 9 → ∀ k, k < 9 → k ≤ m → (if mc1 .ne ((nI m - nI k) - (nI m - nI k) / 2 * 2) = true then ((-1) : Int32) else 1) = pbn m k 0 := by decide +kernel
theorem nI_nz : ∀ i, i < 9 → ¬ nI (i + 1) = 0 := by decide +kernel
/-- powerAt -/
theorem pa50 (hF : 9000 ≤ F) {m k : Nat} (hm : m < 9) (hk : k < 2 ^ 31) (hp : List mE) : e50 F (nI m) (nI k) hp = some (zI (pw m k), hp) := by
  show m50_0 F (nI m) (nI k) hp = _
  unfold m50_0
  rw [if_neg (show ¬ mc1 .lt (nI k) = true by rw [d_lt hk]; exact id)]
  by_cases hle : k ≤ m
  · rw [if_pos (show mc2 .le (nI k) (nI m) = true by rw [c_le hk (by omega)]; exact hle)]
    have h3 := pb_3 m hm k (by omega) hle
    have lp : ∀ (f i : Nat) (v : Int32), i ≤ k → k < i + f → v = pbn m k i → m50_27 F f (nI m) (nI k) v (nI (i + 1)) hp = some (zI (pw m k), hp) := by
      refine lpc (σ := Int32) (R := Option (Int32 × List mE)) (fun f i v => m50_27 F f (nI m) (nI k) v (nI (i + 1)) hp) k (fun i v => v = pbn m k i) (fun r => r = some (zI (pw m k), hp)) ?_ ?_
      · intro f v hv
        show m50_27 F (f + 1) (nI m) (nI k) v (nI (k + 1)) hp = _
        have hv : v = pbn m k k := hv
        rw [m50_27, if_pos (show mc2 .gt (nI (k + 1)) (nI k) = true by rw [c_gt (by omega) (by omega)]; omega), hv, pb_2 m hm k (by omega) hle]
      · intro f i v hi hv
        right
        refine ⟨pbn m k (i + 1), ?_, rfl⟩
        have hv : v = pbn m k i := hv
        show m50_27 F (f + 1) (nI m) (nI k) v (nI (i + 1)) hp = _
        rw [m50_27, if_neg (show ¬ mc2 .gt (nI (i + 1)) (nI k) = true by rw [c_gt (by omega) (by omega)]; omega), if_neg (nI_nz i (by omega)), hv, pb_1 m hm k (by omega) hle i (by omega), n_1, nI_add]
    have st := fun v hv => lp F 0 v (by omega) (by omega) hv
    split
    · rename_i hne
      rw [if_pos hne] at h3
      unfold m50_24
      exact st _ h3
    · rename_i hne
      rw [if_neg hne] at h3
      unfold m50_24
      exact st _ h3
  · rw [if_neg (show ¬ mc2 .le (nI k) (nI m) = true by rw [c_le hk (by omega)]; exact hle), pw_0 m k (by omega)]
    rfl
end S
