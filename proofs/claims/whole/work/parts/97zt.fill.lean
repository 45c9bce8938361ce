/-! The class: Ideal, fill. Q tells of a row. -/
/-- what stands filled, up to the length L, is as Q tells -/
def filI (n : Nat) (A : Nat → Nat → Int) (W : List (List Nat)) (b : Nat) (Q : Nat → (Nat → Int64) → Prop) (L : Nat) (I : hI) (J : hJ) : Prop := (∀ (i : Nat) (u : List Nat), W[i]? = some u → I (b + 4) i = nI 0 ∨ I (b + 4) i = nI 1) ∧ ∀ (i : Nat) (u : List Nat), W[i]? = some u → cx_l n A u ≤ L → I (b + 4) i = nI 1 → Q i (fun k => J (b + 3) (i * 256 + k))
def filS (n : Nat) (A : Nat → Nat → Int) (W : List (List Nat)) (b : Nat) (Q : Nat → (Nat → Int64) → Prop) (L : Nat) (I : hI) (J : hJ) : Prop := cl_n n A I ∧ shf n A W (b + 5) 256 I J ∧ bmT n A W b I ∧ filI n A W b Q L I J
/-- what filling up to the length L leaves, the row x aside -/
def filG (n : Nat) (A : Nat → Nat → Int) (W : List (List Nat)) (b L x : Nat) (I I' : hI) (J J' : hJ) : Prop := (∀ c, c ≠ b + 2 → c ≠ b + 4 → I' c = I c) ∧ (∀ c, c ≠ b + 1 → c ≠ b + 3 → J' c = J c) ∧ (∀ (i : Nat) (u : List Nat), W[i]? = some u → L < cx_l n A u → I' (b + 4) i = I (b + 4) i ∧ (i ≠ x → ∀ k, k < 256 → J' (b + 3) (i * 256 + k) = J (b + 3) (i * 256 + k))) ∧ ∀ i, i < W.length → I (b + 4) i = nI 1 → I' (b + 4) i = nI 1
/-- one lessening -/
def lesT (n : Nat) (A : Nat → Nat → Int) (W : List (List Nat)) (Q : Nat → (Nat → Int64) → Prop) (t wl zl : Nat) (S : Nat → Int64) (m : Nat) (v : List Nat) (a a' : Nat → Int64) : Prop := ((dn n A v t → mc1 .eq (leaV zl (cx_l n A v) (S m)) = true) ∧ ∀ k, k < W.length → a' k = a k) ∨ (dn n A v t ∧ ¬ mc1 .eq (leaV zl (cx_l n A v) (S m)) = true ∧ ∃ r : Nat → Int64, Q m r ∧ ∀ k, k < W.length → a' k = a k - ((r k * (leaV zl (cx_l n A v) (S m)).toInt64) <<< ((nI (12 * ((wl - cx_l n A v) / 2))).toInt64 &&& 63)))
/-- the rules that Q keeps -/
def filQ (n : Nat) (A : Nat → Nat → Int) (W : List (List Nat)) (Q : Nat → (Nat → Int64) → Prop) : Prop := (∀ (i : Nat) (r r' : Nat → Int64), (∀ k, k < W.length → r' k = r k) → Q i r → Q i r') ∧ (∀ (i : Nat) (u : List Nat) (r : Nat → Int64), W[i]? = some u → (∀ t, t < n → ¬ dn n A u t) → (∀ k, k < W.length → r k = if k = i then 1 else 0) → Q i r) ∧ ∀ (i j t : Nat) (u z : List Nat) (S : Nat → Int64) (T : Nat → Nat → Int64), W[i]? = some u → W[j]? = some z → t < n → dn n A u t → cx_g n A z = cx_g n A (u ++ [t]) → Q j S → (∀ (k : Nat) (v : List Nat), W[k]? = some v → sprT n A W S v t k (T 0 k)) → (∀ (m : Nat) (v : List Nat), W[m]? = some v → lesT n A W Q t (cx_l n A u) (cx_l n A z) S m v (T m) (T (m + 1))) → Q i (T W.length)
theorem dp_ge : ∀ D, D < 9 → mc1 .ge (nI D) = true := by decide +kernel
section S
variable {l s d : Value} {tl : List hQ} {F : Nat} {I : hI} {J : hJ} {n b : Nat} {A : Nat → Nat → Int} {W : List (List Nat)} {y : List Nat} {Q : Nat → (Nat → Int64) → Prop}
theorem filG_tr {L x : Nat} {I' I'' : hI} {J' J'' : hJ} (h : filG n A W b L x I I' J J') (h' : filG n A W b L x I' I'' J' J'') : filG n A W b L x I I'' J J'' := ⟨fun c a1 a2 => (h'.1 c a1 a2).trans (h.1 c a1 a2), fun c a1 a2 => (h'.2.1 c a1 a2).trans (h.2.1 c a1 a2), fun i u hu hl => ⟨(h'.2.2.1 i u hu hl).1.trans (h.2.2.1 i u hu hl).1, fun hx k hk => ((h'.2.2.1 i u hu hl).2 hx k hk).trans ((h.2.2.1 i u hu hl).2 hx k hk)⟩, fun i hi h1 => h'.2.2.2 i hi (h.2.2.2 i hi h1)⟩
theorem filG_rf (L x : Nat) : filG n A W b L x I I J J := ⟨fun _ _ _ => rfl, fun _ _ _ => rfl, fun _ _ _ _ => ⟨rfl, fun _ _ _ => rfl⟩, fun _ _ h1 => h1⟩
theorem filG_up {L L' x x' : Nat} {v : List Nat} {I' : hI} {J' : hJ} (h : filG n A W b L x I I' J J') (hv : W[x]? = some v) (hvl : cx_l n A v ≤ L) (hL : L ≤ L') : filG n A W b L' x' I I' J J' := ⟨h.1, h.2.1, fun i u hu hl => ⟨(h.2.2.1 i u hu (by omega)).1, fun _ k hk => (h.2.2.1 i u hu (by omega)).2 (fun hh => by
  rw [hh, hv] at hu
  cases hu
  omega) k hk⟩, h.2.2.2⟩
theorem filS_w (hQ : filQ n A W Q) (hb : 54 ≤ b) (hW : W.length ≤ 256) {L x : Nat} {u : List Nat} {I' : hI} {J' : hJ} (h : filS n A W b Q L I J) (hu : W[x]? = some u) (hl : L < cx_l n A u) (hI : ∀ c, c ≠ b + 2 → I' c = I c) (hbm : bmT n A W b I') (hJ : ∀ c, c ≠ b + 1 → c ≠ b + 3 → J' c = J c) (hr : ∀ q, q < x * 256 ∨ x * 256 + 256 ≤ q → J' (b + 3) q = J (b + 3) q) : filS n A W b Q L I' J' ∧ filG n A W b L x I I' J J' := by
  refine ⟨⟨cl_fr h.1 (hI 1 (by omega)) (hI 3 (by omega)), shf_at h.2.1 (hI _ (by omega)) (hI _ (by omega)) (hI _ (by omega)) (hI _ (by omega)) (hJ _ (by omega) (by omega)), hbm, fun i v hv => ?_, fun i v hv hvl h1 => ?_⟩, fun c a1 _ => hI c a1, hJ, fun i v hv hvl => ⟨by rw [hI (b + 4) (by omega)], fun hx k hk => hr _ (by omega)⟩, fun i hi h1 => by rw [hI (b + 4) (by omega)]; exact h1⟩
  · rw [hI (b + 4) (by omega)]
    exact h.2.2.2.1 i v hv
  · rw [hI (b + 4) (by omega)] at h1
    have hx : i ≠ x := fun hh => by
      rw [hh, hu] at hv
      cases hv
      omega
    exact hQ.1 i _ _ (fun k hk => hr _ (by omega)) (h.2.2.2.2 i v hv hvl h1)
/-- the state after a shorter one is filled -/
theorem filS_up (hQ : filQ n A W Q) (hW : W.length ≤ 256) {L L' x : Nat} {v : List Nat} {I' : hI} {J' : hJ} (h : filS n A W b Q L' I J) (hv : W[x]? = some v) (hvl : cx_l n A v ≤ L) (h' : filS n A W b Q L I' J') (hG : filG n A W b L x I I' J J') : filS n A W b Q L' I' J' := by
  refine ⟨h'.1, h'.2.1, h'.2.2.1, h'.2.2.2.1, fun i u hu hul h1 => ?_⟩
  by_cases hl : cx_l n A u ≤ L
  · exact h'.2.2.2.2 i u hu hl h1
  · have g := hG.2.2.1 i u hu (by omega)
    have hx : i ≠ x := fun hh => by
      rw [hh, hv] at hu
      cases hu
      omega
    rw [g.1] at h1
    exact hQ.1 i _ _ (fun k hk => g.2 hx k (by omega)) (h.2.2.2.2 i u hu hul h1)
theorem filS_dn {L L' : Nat} (h : filS n A W b Q L' I J) (hL : L ≤ L') : filS n A W b Q L I J := ⟨h.1, h.2.1, h.2.2.1, h.2.2.2.1, fun i u hu hul h1 => h.2.2.2.2 i u hu (by omega) h1⟩
/-- the row of the one with no descents -/
theorem fl_u (h : idS (hs l s d tl) b) (hF : 9000 ≤ F) (hsh : shf n A W (b + 5) 256 I J) {x : Nat} (hx : x < W.length) {sf : Nat → Int32 → Int32 → List mE → Option (Unit × List mE)} : ∃ J' : hJ, m10_72 F sf F b (nI x) (nI 0) (mkH (hs l s d tl) I J) = some ((), (mkH (hs l s d tl) I J')) ∧ (∀ c, c ≠ b + 3 → J' c = J c) ∧ (∀ q, q < x * 256 ∨ x * 256 + 256 ≤ q → J' (b + 3) q = J (b + 3) q) ∧ ∀ k, k < W.length → J' (b + 3) (x * 256 + k) = if k = x then 1 else 0 := by
  have hS := h.2.2.2.2.2
  have hlen := hsh.2.1.1
  refine lpc (σ := hJ) (R := Option (Unit × List mE)) (fun f k M => m10_72 F sf f b (nI x) (nI k) (mkH (hs l s d tl) I M)) W.length (fun k M => (∀ c, c ≠ b + 3 → M c = J c) ∧ (∀ q, q < x * 256 ∨ x * 256 + 256 ≤ q → M (b + 3) q = J (b + 3) q) ∧ ∀ k', k' < k → M (b + 3) (x * 256 + k') = if k' = x then 1 else 0) (fun r => ∃ J' : hJ, r = some ((), (mkH (hs l s d tl) I J')) ∧ (∀ c, c ≠ b + 3 → J' c = J c) ∧ (∀ q, q < x * 256 ∨ x * 256 + 256 ≤ q → J' (b + 3) q = J (b + 3) q) ∧ ∀ k, k < W.length → J' (b + 3) (x * 256 + k) = if k = x then 1 else 0) ?_ ?_ F 0 J (by omega) (by omega) ⟨fun _ _ => rfl, fun _ _ => rfl, fun k' hk' => by omega⟩
  · rintro f M ⟨p1, p2, p3⟩
    refine ⟨M, ?_, p1, p2, p3⟩
    show m10_72 F sf (f + 1) b (nI x) (nI W.length) (mkH (hs l s d tl) I M) = _
    rw [m10_72, id2 h, Option.bind_some, s2 hS, Option.bind_some, hsh.2.1.2.1, if_pos (show mc2 .ge (nI W.length) (nI W.length) = true by rw [c_ge (by omega) (by omega)]; omega)]
  · rintro f k M hk ⟨p1, p2, p3⟩
    right
    have wr : ∀ v : Int64, m10_107 F sf (m10_72 F sf f) b (nI x) (nI k) (b + 3) ((nI x * 256) + nI k) v (mkH (hs l s d tl) I M) = m10_72 F sf f b (nI x) (nI (k + 1)) (mkH (hs l s d tl) I (upJ M (b + 3) (x * 256 + k) v)) := by
      intro v
      unfold m10_107
      rw [c_256, pk_mul, nI_add, wrJ_H h.2.2.2.1 (by omega) (by omega), Option.bind_some, n_1, nI_add]
    refine ⟨upJ M (b + 3) (x * 256 + k) (if k = x then 1 else 0), ?_, fun c hc => by rw [upJ_ne hc]; exact p1 c hc, fun q hq => by rw [upJ_at, if_neg (by omega)]; exact p2 q hq, fun k' hk' => ?_⟩
    · show m10_72 F sf (f + 1) b (nI x) (nI k) (mkH (hs l s d tl) I M) = _
      rw [m10_72, id2 h, Option.bind_some, s2 hS, Option.bind_some, hsh.2.1.2.1, if_neg (show ¬ mc2 .ge (nI k) (nI W.length) = true by rw [c_ge (by omega) (by omega)]; omega), id5 h, Option.bind_some]
      by_cases hkx : k = x
      · rw [if_neg (show ¬ mc2 .ne (nI k) (nI x) = true by rw [c_ne (by omega) (by omega)]; exact fun hh => hh hkx), if_pos hkx]
        exact wr 1
      · rw [if_pos (show mc2 .ne (nI k) (nI x) = true by rw [c_ne (by omega) (by omega)]; exact hkx), if_neg hkx]
        exact wr 0
    · rw [upJ_at]
      by_cases hkk : k' = k
      · rw [if_pos (by omega), hkk]
      · rw [if_neg (by omega)]
        exact p3 k' (by omega)
end S
