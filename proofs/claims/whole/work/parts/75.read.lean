/-! The class: feed; THE TEXT becomes THE GROUP. -/
/-- what a text comes to -/
noncomputable def prs (N : Nat) (tx : Nat → Nat) : Nat → Bool → Nat → tT → Nat → (Nat × Nat) ⊕ (Nat × tT)
  | 0, _, m, T, _ => .inr (m, T)
  | f + 1, first, m, T, p => if sk N tx p < N then (match clf N tx first m T (sk N tx p) with
    | .inl e => .inl e
    | .inr (p', m', T') => prs N tx f false m' T' p') else .inr (m, T)
def tT0 : tT := fun _ _ => none
/-- turns that there are -/
def tok (T : tT) : Prop := ∀ i j, T i j = T j i ∧ ∀ t, T i j = some t → t = 0 ∨ t = 2 ∨ t = 3 ∨ t = 4 ∨ t = 6
theorem tok_0 : tok tT0 := fun _ _ => ⟨rfl, fun t h => by cases h⟩
theorem tok_U {T : tT} (h : tok T) {i j t : Nat} (ht : t = 0 ∨ t = 2 ∨ t = 3 ∨ t = 4 ∨ t = 6) : tok (tU T i j t) := by
  intro a b
  unfold tU
  refine ⟨?_, fun t' h' => ?_⟩
  · by_cases h1 : (a = i ∧ b = j) ∨ (a = j ∧ b = i)
    · rw [if_pos h1, if_pos (by omega)]
    · rw [if_neg h1, if_neg (by omega)]
      exact (h a b).1
  · by_cases h1 : (a = i ∧ b = j) ∨ (a = j ∧ b = i)
    · rw [if_pos h1] at h'
      rw [← Option.some.inj h']
      exact ht
    · rw [if_neg h1] at h'
      exact (h a b).2 t' h'
theorem turnc_ok {N p t q : Nat} {tx : Nat → Nat} (h : turnc N tx p = .inr (t, q)) : t = 0 ∨ t = 2 ∨ t = 3 ∨ t = 4 ∨ t = 6 := by
  unfold turnc at h
  split at h
  · split at h
    · have e1 := (Prod.mk.inj (Sum.inr.inj h)).1
      omega
    · cases h
  · split at h
    · cases h
    · split at h
      · have e1 := (Prod.mk.inj (Sum.inr.inj h)).1
        omega
      · cases h
theorem clf_ok {N p m : Nat} {tx : Nat → Nat} {first : Bool} {T : tT} (hT : tok T) {p' m' : Nat} {T' : tT} (h : clf N tx first m T p = .inr (p', m', T')) : tok T' := by
  unfold clf at h
  split at h
  · unfold mirc at h
    split at h
    · split at h
      · cases h
      · split at h
        · cases h
        · have := (Prod.mk.inj (Prod.mk.inj (Sum.inr.inj h)).2).2
          rw [← this]
          exact hT
    · cases h
  · unfold pairc at h
    split at h
    · cases h
    · split at h
      · cases h
      · split at h
        · cases h
        · split at h
          · cases h
          · split at h
            · cases h
            · rename_i ht
              split at h
              · cases h
              · have := (Prod.mk.inj (Prod.mk.inj (Sum.inr.inj h)).2).2
                rw [← this]
                exact tok_U hT (turnc_ok ht)
theorem prs_ok {N : Nat} {tx : Nat → Nat} : ∀ (f : Nat) {first : Bool} {m : Nat} {T : tT} {p m' : Nat} {T' : tT}, tok T → prs N tx f first m T p = .inr (m', T') → tok T' := by
  intro f
  induction f with
  | zero =>
    intro first m T p m' T' hT h
    rw [prs] at h
    rw [← (Prod.mk.inj (Sum.inr.inj h)).2]
    exact hT
  | succ f ih =>
    intro first m T p m' T' hT h
    rw [prs] at h
    split at h
    · split at h
      · cases h
      · rename_i hc
        exact ih (clf_ok hT hc) h
    · rw [← (Prod.mk.inj (Sum.inr.inj h)).2]
      exact hT
/-- numbers of two mirrors by their turns -/
def nf (t : Nat) (lf : Bool) : Int := if t = 3 then -1 else if t = 4 then (if lf = true then -2 else -1) else if t = 6 then (if lf = true then -3 else -1) else if t = 0 then -2 else 0
def gT (T : tT) (i j : Nat) : Nat := if i = j then 1 else (T i j).getD 2
def gA (T : tT) (i j : Nat) : Int := if i = j then 2 else nf ((T i j).getD 2) (decide (i < j))
theorem tok_d {T : tT} (h : tok T) (i j : Nat) : (T i j).getD 2 = 0 ∨ (T i j).getD 2 = 2 ∨ (T i j).getD 2 = 3 ∨ (T i j).getD 2 = 4 ∨ (T i j).getD 2 = 6 := by
  cases hT : T i j with
  | none => exact Or.inr (Or.inl rfl)
  | some t => exact (h i j).2 t hT
theorem gA_ok {T : tT} (h : tok T) (n : Nat) : cx_ok n (gA T) := by
  refine ⟨fun i _ => if_pos rfl, fun i j _ _ hij => ?_⟩
  have key : ∀ {i j : Nat}, i < j → ∃ m, cx_pr (gA T i j) (gA T j i) m := by
    intro i j hlt
    unfold gA
    rw [if_neg (by omega), if_neg (by omega), ← (h i j).1, decide_eq_true hlt, decide_eq_false (by omega)]
    rcases tok_d h i j with e | e | e | e | e <;> rw [e]
    · exact ⟨0, by unfold cx_pr nf; simp⟩
    · exact ⟨2, by unfold cx_pr nf; simp⟩
    · exact ⟨3, by unfold cx_pr nf; simp⟩
    · exact ⟨4, by unfold cx_pr nf; simp⟩
    · exact ⟨6, by unfold cx_pr nf; simp⟩
  rcases Nat.lt_or_gt_of_ne hij with hlt | hlt
  · exact key hlt
  · obtain ⟨m, hm⟩ := key hlt
    exact ⟨m, cx_pr_t hm⟩
theorem gA_bd {T : tT} (h : tok T) (i j : Nat) : -3 ≤ gA T i j ∧ gA T i j ≤ 2 := by
  unfold gA
  by_cases hij : i = j
  · rw [if_pos hij]; omega
  · rw [if_neg hij]
    unfold nf
    split
    · omega
    · split
      · split <;> omega
      · split
        · split <;> omega
        · split <;> omega
section S
variable {l s d : Value} {tl : List hQ} {F : Nat} {I : hI} {J : hJ} {N p m : Nat} {tx : Nat → Nat} {T : tT}
/-- append -/
theorem ap_e (h : tb N tx I) (hF : 300 ≤ F) {n : Nat} (hn : n ≤ 8) {x : Int64} : (120 < N + n ∧ e77 F 4 (nI n) x (mkH (hs l s d tl) I J) = some (gI 1004, (mkH (hs l s d tl) I J))) ∨ (N + n ≤ 120 ∧ ∃ I' tx', e77 F 4 (nI n) x (mkH (hs l s d tl) I J) = some (nI (N + n), (mkH (hs l s d tl) I' J)) ∧ tb (N + n) tx' I' ∧ (∀ i, i < N → tx' i = tx i) ∧ (∀ k, k < n → tx' (N + (n - 1 - k)) = ((x >>> ((nI 8 * nI k).toInt64 &&& 63)) &&& 255).toInt32.toBitVec.toNat) ∧ (∀ c, c ≠ 4 → c ≠ 5 → I' c = I c) ∧ ∀ f, f ≠ 1 → I' 4 f = I 4 f) := by
  have hN := h.1
  have e0 : e77 F 4 (nI n) x (mkH (hs l s d tl) I J) = m77_0 F 4 (nI n) x (mkH (hs l s d tl) I J) := rfl
  rw [e0]
  unfold m77_0
  rw [gi4_1, Option.bind_some, h.2.1, nI_add, n_120]
  by_cases hfull : N + n ≤ 120
  · right
    refine ⟨hfull, ?_⟩
    rw [if_pos (show mc2 .le (nI (N + n)) (nI 120) = true by rw [c_le (by omega) (by omega)]; exact hfull), n_1]
    refine lpd (fun f c (q : hI × (Nat → Nat)) => m77_20 F f 4 x (nI c - nI 1) (mkH (hs l s d tl) q.1 J)) (fun c q => c ≤ n ∧ tb (N + (n - c)) q.2 q.1 ∧ (∀ i, i < N → q.2 i = tx i) ∧ (∀ k, c ≤ k → k < n → q.2 (N + (n - 1 - k)) = ((x >>> ((nI 8 * nI k).toInt64 &&& 63)) &&& 255).toInt32.toBitVec.toNat) ∧ (∀ c, c ≠ 4 → c ≠ 5 → q.1 c = I c) ∧ ∀ f, f ≠ 1 → q.1 4 f = I 4 f) (fun r => ∃ I' tx', r = some (nI (N + n), (mkH (hs l s d tl) I' J)) ∧ tb (N + n) tx' I' ∧ (∀ i, i < N → tx' i = tx i) ∧ (∀ k, k < n → tx' (N + (n - 1 - k)) = ((x >>> ((nI 8 * nI k).toInt64 &&& 63)) &&& 255).toInt32.toBitVec.toNat) ∧ (∀ c, c ≠ 4 → c ≠ 5 → I' c = I c) ∧ ∀ f, f ≠ 1 → I' 4 f = I 4 f) ?_ ?_ F n (I, tx) (by omega) ⟨Nat.le_refl _, by rw [Nat.sub_self]; exact h, fun _ _ => rfl, fun k h1 h2 => by omega, fun _ _ _ => rfl, fun _ _ => rfl⟩
    · rintro f ⟨I1, t1⟩ ⟨-, k1, k2, k3, k4, k5⟩
      dsimp only at k1 k2 k3 k4 k5
      rw [Nat.sub_zero] at k1
      show ∃ I' tx', m77_20 F (f + 1) _ _ _ _ = _ ∧ _
      rw [m77_20, z_m1, if_pos (show mc1 .lt (gI 1) = true by decide)]
      dsimp only
      rw [gi4_1, Option.bind_some, k1.2.1]
      exact ⟨I1, t1, rfl, k1, k2, fun k hk => k3 k (by omega) hk, k4, k5⟩
    · rintro f c ⟨I1, t1⟩ ⟨k0, k1, k2, k3, k4, k5⟩
      dsimp only at k0 k1 k2 k3 k4 k5
      right
      have hb := pk_and (x := 0) (m := 255) 8 (by decide)
      have hy : ∃ y, ((x >>> ((nI 8 * nI c).toInt64 &&& 63)) &&& 255).toInt32 = nI y ∧ y < 256 ∧ y = ((x >>> ((nI 8 * nI c).toInt64 &&& 63)) &&& 255).toInt32.toBitVec.toNat := by
        generalize x >>> ((nI 8 * nI c).toInt64 &&& 63) = z
        have e1 : (z &&& 255).toInt32 = z.toInt32 &&& 255 := by rw [Int64.toInt32_and]; rfl
        rw [e1, pk_and z.toInt32 8 (by decide)]
        have hlt : z.toInt32.toBitVec.toNat % 2 ^ 8 < 256 := Nat.mod_lt _ (by decide)
        refine ⟨_, rfl, hlt, ?_⟩
        rw [pk_tn (by omega)]
      obtain ⟨y, hy1, hy2, hy3⟩ := hy
      have h41 : upI I1 5 (N + (n - (c + 1))) (nI y) 4 1 = nI (N + (n - (c + 1))) := by rw [upI_ne (by decide), k1.2.1]
      show ∃ q : hI × (Nat → Nat), m77_20 F (f + 1) _ _ _ _ = _ ∧ _
      rw [m77_20, pk_sub1, if_neg (show ¬ mc1 .lt (nI c) = true by rw [d_lt (by omega)]; exact id)]
      dsimp only
      rw [gr4_0, Option.bind_some, gi4_1, Option.bind_some, k1.2.1, n_8, hy1, wI5 (by omega), Option.bind_some, gi4_1, Option.bind_some, h41, pi4_1, Option.bind_some, n_1, nI_add, n_m, p_m1]
      simp only [Prod.exists]
      refine ⟨_, fun i => if i = N + (n - (c + 1)) then y else t1 i, rfl, by omega, ⟨by omega, ?_, fun i hi => ?_⟩, fun i hi => ?_, fun k h1 h2 => ?_, fun e c1 c2 => ?_, fun g hg => ?_⟩
      · rw [upI_at, if_pos rfl]
        congr 1
        omega
      · rw [upI_ne (by decide), upI_at]
        dsimp only
        by_cases hii : i = N + (n - (c + 1))
        · rw [if_pos hii, if_pos hii]
          exact ⟨rfl, hy2⟩
        · rw [if_neg hii, if_neg hii]
          exact k1.2.2 i (by omega)
      · dsimp only
        rw [if_neg (by omega)]
        exact k2 i hi
      · dsimp only
        by_cases hkc : k = c
        · subst hkc
          rw [if_pos (by omega)]
          exact hy3
        · rw [if_neg (by omega)]
          exact k3 k (by omega) h2
      · rw [upI_ne c1, upI_ne c2]
        exact k4 e c1 c2
      · rw [upI_at, if_neg hg, upI_ne (by decide)]
        exact k5 g hg
  · left
    rw [if_neg (show ¬ mc2 .le (nI (N + n)) (nI 120) = true by rw [c_le (by omega) (by omega)]; exact hfull)]
    exact ⟨by omega, rfl⟩
/-- begin -/
theorem tbg_e (h : tb N tx I) (hF : 300 ≤ F) : ∃ I', e79 F 4 (mkH (hs l s d tl) I J) = some ((), (mkH (hs l s d tl) I' J)) ∧ tq N tx 0 3 tT0 I' ∧ tf I I' := by
  have e0 : e79 F 4 (mkH (hs l s d tl) I J) = m79_0 F 4 (mkH (hs l s d tl) I J) := rfl
  rw [e0]
  unfold m79_0
  rw [pi4_2, Option.bind_some, pi4_3, Option.bind_some, pi4_4, Option.bind_some, pi4_5, Option.bind_some]
  refine lpc (fun f k (I1 : hI) => m79_22 F f 4 (nI k) (mkH (hs l s d tl) I1 J)) 25 (fun k I1 => I1 4 = upI (upI (upI (upI I 4 2 0) 4 3 0) 4 4 (-1)) 4 5 3 4 ∧ (∀ i, i < k → I1 6 i = nI 2 ∧ I1 7 i = nI 0) ∧ tf I I1) (fun r => ∃ I', r = some ((), (mkH (hs l s d tl) I' J)) ∧ tq N tx 0 3 tT0 I' ∧ tf I I') ?_ ?_ F 0 _ (by omega) (by omega) ⟨rfl, fun i hi => by omega, tf_tr (tf_tr (tf_up _ _ _) (tf_up _ _ _)) (tf_tr (tf_up _ _ _) (tf_up _ _ _))⟩
  · rintro f I1 ⟨k1, k2, k3⟩
    show ∃ I', m79_22 F (f + 1) _ _ _ = _ ∧ _
    rw [m79_22, if_pos (show mc2 .ge (nI 25) 25 = true by decide)]
    refine ⟨I1, rfl, ⟨⟨h.1, ?_, fun i hi => by rw [k3 5 (by decide) (by decide) (by decide)]; exact h.2.2 i hi⟩, Nat.zero_le _, ?_, ?_, ?_, by omega, by omega, ?_, fun i j hi hj => ?_⟩, k3⟩
    · rw [k1, upI_at, if_neg (by decide), upI_at, if_neg (by decide), upI_at, if_neg (by decide), upI_at, if_neg (by decide)]
      exact h.2.1
    · rw [k1, upI_at, if_neg (by decide), upI_at, if_neg (by decide), upI_at, if_neg (by decide), upI_at, if_pos rfl]
      rfl
    · rw [k1, upI_at, if_neg (by decide), upI_at, if_neg (by decide), upI_at, if_pos rfl]
      rfl
    · rw [k1, upI_at, if_neg (by decide), upI_at, if_pos rfl]
      rfl
    · rw [k1, upI_at, if_pos rfl]
      rfl
    · have := k2 (i * 5 + j) (by omega)
      exact ⟨this.2, this.1, by show 2 < 10; omega⟩
  · rintro f k I1 hk ⟨k1, k2, k3⟩
    right
    show ∃ y, m79_22 F (f + 1) _ _ _ = _ ∧ _
    rw [m79_22, if_neg (show ¬ mc2 .ge (nI k) 25 = true by rw [n_25, c_ge (by omega) (by omega)]; omega), gr4_6, Option.bind_some, wI6 (by omega), Option.bind_some, gr4_7, Option.bind_some, wZ7 (by omega) (Or.inl rfl), Option.bind_some, n_1, nI_add]
    refine ⟨_, rfl, ?_, fun i hi => ?_, fun c c1 c2 c3 => ?_⟩
    · rw [upI_ne (by decide), upI_ne (by decide), k1]
      rfl
    · rw [upI_ne (by decide), upI_at, upI_at]
      by_cases hik : i = k
      · rw [if_pos hik, if_pos hik]
        exact ⟨rfl, rfl⟩
      · rw [if_neg hik, if_neg hik, upI_ne (by decide)]
        exact k2 i (by omega)
    · rw [upI_ne c3, upI_ne c2]
      exact k3 c c1 c2 c3
/-- parse -/
theorem pr_s (h : tb N tx I) (hF : 300 ≤ F) : ∃ v I', e78 F 4 (mkH (hs l s d tl) I J) = some (v, (mkH (hs l s d tl) I' J)) ∧ tf I I' ∧ I' 4 1 = nI 0 ∧ ((∃ m T, prs N tx 121 true 3 tT0 0 = .inr (m, T) ∧ v = nI 0 ∧ I' 4 4 = gI 1 ∧ I' 4 5 = nI m ∧ 1 ≤ m ∧ m ≤ 5 ∧ ∀ i j, i < 5 → j < 5 → I' 6 (i * 5 + j) = nI ((T i j).getD 2)) ∨ (∃ c q, prs N tx 121 true 3 tT0 0 = .inl (c, q) ∧ 1 ≤ c ∧ c ≤ 3 ∧ q ≤ 120 ∧ v = nI c ∧ I' 4 4 = nI q)) := by
  have hN := h.1
  obtain ⟨I1, e1, h1, h2⟩ := tbg_e (l := l) (s := s) (d := d) (tl := tl) (F := F) (J := J) h hF
  have e0 : e78 F 4 (mkH (hs l s d tl) I J) = m78_0 F 4 (mkH (hs l s d tl) I J) := rfl
  rw [e0]
  unfold m78_0
  rw [rc4, Option.bind_some, e1, Option.bind_some]
  have done : ∀ {I2 : hI} {m : Nat} {T : tT} {p : Nat}, tq N tx p m T I2 → tf I I2 → prs N tx 121 true 3 tT0 0 = .inr (m, T) → ∃ v I', m78_63 F 4 (mkH (hs l s d tl) I2 J) = some (v, (mkH (hs l s d tl) I' J)) ∧ tf I I' ∧ I' 4 1 = nI 0 ∧ ((∃ m T, prs N tx 121 true 3 tT0 0 = .inr (m, T) ∧ v = nI 0 ∧ I' 4 4 = gI 1 ∧ I' 4 5 = nI m ∧ 1 ≤ m ∧ m ≤ 5 ∧ ∀ i j, i < 5 → j < 5 → I' 6 (i * 5 + j) = nI ((T i j).getD 2)) ∨ (∃ c q, prs N tx 121 true 3 tT0 0 = .inl (c, q) ∧ 1 ≤ c ∧ c ≤ 3 ∧ q ≤ 120 ∧ v = nI c ∧ I' 4 4 = nI q)) := by
    intro I2 m T p k1 k2 k3
    obtain ⟨j1, j2, j3, j4, j5, j6, j7, j8, j9⟩ := k1
    refine ⟨nI 0, upI I2 4 1 (nI 0), ?_, tf_tr k2 (tf_up _ _ _), by rw [upI_at, if_pos rfl], Or.inl ⟨m, T, k3, rfl, by rw [upI_at, if_neg (by decide), j5], by rw [upI_at, if_neg (by decide), j8], j6, j7, fun i j hi hj => by rw [upI_ne (by decide)]; exact (j9 i j hi hj).2.1⟩⟩
    unfold m78_63
    rw [pi4_1, Option.bind_some, gi4_3, Option.bind_some, upI_at, if_neg (by decide), j4]
    rfl
  have wrong : ∀ {I2 : hI} {c q : Nat}, tw N c q I2 I2 → tf I I2 → prs N tx 121 true 3 tT0 0 = .inl (c, q) → ∃ v I', m78_63 F 4 (mkH (hs l s d tl) I2 J) = some (v, (mkH (hs l s d tl) I' J)) ∧ tf I I' ∧ I' 4 1 = nI 0 ∧ ((∃ m T, prs N tx 121 true 3 tT0 0 = .inr (m, T) ∧ v = nI 0 ∧ I' 4 4 = gI 1 ∧ I' 4 5 = nI m ∧ 1 ≤ m ∧ m ≤ 5 ∧ ∀ i j, i < 5 → j < 5 → I' 6 (i * 5 + j) = nI ((T i j).getD 2)) ∨ (∃ c q, prs N tx 121 true 3 tT0 0 = .inl (c, q) ∧ 1 ≤ c ∧ c ≤ 3 ∧ q ≤ 120 ∧ v = nI c ∧ I' 4 4 = nI q)) := by
    intro I2 c q k1 k2 k3
    obtain ⟨j1, j2, j3, j4, j5, -⟩ := k1
    refine ⟨nI c, upI I2 4 1 (nI 0), ?_, tf_tr k2 (tf_up _ _ _), by rw [upI_at, if_pos rfl], Or.inr ⟨c, q, k3, j1, j2, by omega, rfl, by rw [upI_at, if_neg (by decide), j5]⟩⟩
    unfold m78_63
    rw [pi4_1, Option.bind_some, gi4_3, Option.bind_some, upI_at, if_neg (by decide), j4]
    rfl
  refine lpc (fun f k (q : hI × Nat × Nat × tT × ((Nat × Nat) ⊕ Unit)) => m78_6 F f 4 (nI k) (mkH (hs l s d tl) q.1 J)) 120 (fun k q => (∃ u, q.2.2.2.2 = .inr u ∧ tq N tx q.2.1 q.2.2.1 q.2.2.2.1 q.1 ∧ tf I q.1 ∧ k ≤ q.2.1 ∧ prs N tx 121 true 3 tT0 0 = prs N tx (121 - k) (decide (k = 0)) q.2.2.1 q.2.2.2.1 q.2.1) ∨ (∃ c r, q.2.2.2.2 = .inl (c, r) ∧ tw N c r q.1 q.1 ∧ tf I q.1 ∧ prs N tx 121 true 3 tT0 0 = .inl (c, r))) (fun r => ∃ v I', r = some (v, (mkH (hs l s d tl) I' J)) ∧ tf I I' ∧ I' 4 1 = nI 0 ∧ ((∃ m T, prs N tx 121 true 3 tT0 0 = .inr (m, T) ∧ v = nI 0 ∧ I' 4 4 = gI 1 ∧ I' 4 5 = nI m ∧ 1 ≤ m ∧ m ≤ 5 ∧ ∀ i j, i < 5 → j < 5 → I' 6 (i * 5 + j) = nI ((T i j).getD 2)) ∨ (∃ c q, prs N tx 121 true 3 tT0 0 = .inl (c, q) ∧ 1 ≤ c ∧ c ≤ 3 ∧ q ≤ 120 ∧ v = nI c ∧ I' 4 4 = nI q))) ?_ ?_ F 0 (I1, 0, 3, tT0, .inr ()) (by omega) (by omega) (Or.inl ⟨(), rfl, h1, h2, Nat.le_refl _, rfl⟩)
  · rintro f ⟨I2, p, m, T, u⟩ hq
    dsimp only at hq
    show ∃ v I', m78_6 F (f + 1) _ _ _ = _ ∧ _
    rw [m78_6, if_pos (show mc2 .ge (nI 120) 120 = true by decide)]
    rcases hq with ⟨_, _, k1, k2, k3, k4⟩ | ⟨c, r, _, k1, k2, k3⟩
    · refine done k1 k2 ?_
      have hp := k1.2.1
      rw [k4, show 121 - 120 = 0 + 1 by omega, prs, sk_end (by omega), if_neg (by omega)]
    · exact wrong k1 k2 k3
  · rintro f k ⟨I2, p, m, T, u⟩ hk hq
    dsimp only at hq
    show (∃ v I', m78_6 F (f + 1) _ _ _ = _ ∧ _) ∨ ∃ y : hI × Nat × Nat × tT × ((Nat × Nat) ⊕ Unit), m78_6 F (f + 1) _ _ _ = _ ∧ _
    rw [m78_6, if_neg (show ¬ mc2 .ge (nI k) 120 = true by rw [n_120, c_ge (by omega) (by omega)]; omega)]
    dsimp only
    rcases hq with ⟨_, _, k1, k2, k3, k4⟩ | ⟨c, r, _, k1, k2, k3⟩
    · rw [gi4_3, Option.bind_some, k1.2.2.2.1, if_neg (show ¬ mc1 .ne (nI 0) = true by decide), rc4, Option.bind_some]
      obtain ⟨I3, e3, h3, h4⟩ := fn_e (l := l) (s := s) (d := d) (tl := tl) (F := F) (J := J) k1 (by omega)
      have hsk := sk_le (tx := tx) k1.2.1
      have hk4 : prs N tx ((121 - (k + 1)) + 1) (decide (k = 0)) m T p = if sk N tx p < N then (match clf N tx (decide (k = 0)) m T (sk N tx p) with
          | .inl e => .inl e
          | .inr (p', m', T') => prs N tx (121 - (k + 1)) false m' T' p') else .inr (m, T) := by rw [prs]
      rw [show 121 - k = (121 - (k + 1)) + 1 by omega, hk4] at k4
      rcases e3 with ⟨hlt, e3⟩ | ⟨hlt, e3⟩
      · right
        rw [if_pos hlt] at k4
        rw [e3, Option.bind_some, if_neg (show ¬ mc1 .eq (nI 1) = true by decide), gi4_2, Option.bind_some, rc4, Option.bind_some, h3.2.2.1]
        have fin : ∀ {x : Option (Unit × List mE)} {y : Option (Int32 × List mE)}, co l s d tl N tx (sk N tx p) I3 J (clf N tx (decide (k = 0)) m T (sk N tx p)) x → (∀ I4, x = some ((), (mkH (hs l s d tl) I4 J)) → y = m78_6 F f 4 (nI (k + 1)) (mkH (hs l s d tl) I4 J)) → ∃ q : hI × Nat × Nat × tT × ((Nat × Nat) ⊕ Unit), y = m78_6 F f 4 (nI (k + 1)) (mkH (hs l s d tl) q.1 J) ∧ ((∃ u, q.2.2.2.2 = .inr u ∧ tq N tx q.2.1 q.2.2.1 q.2.2.2.1 q.1 ∧ tf I q.1 ∧ k + 1 ≤ q.2.1 ∧ prs N tx 121 true 3 tT0 0 = prs N tx (121 - (k + 1)) (decide (k + 1 = 0)) q.2.2.1 q.2.2.2.1 q.2.1) ∨ (∃ c r, q.2.2.2.2 = .inl (c, r) ∧ tw N c r q.1 q.1 ∧ tf I q.1 ∧ prs N tx 121 true 3 tT0 0 = .inl (c, r))) := by
          intro x y hco hy
          rcases hco with ⟨I4, p', m', T', c1, c2, c3, c4, c5⟩ | ⟨I4, c, r, c1, c2, c3, c4⟩
          · rw [c1] at k4
            exact ⟨(I4, p', m', T', .inr ()), hy I4 c2, Or.inl ⟨(), rfl, c3, tf_tr (tf_tr k2 h4) c4, by dsimp only; omega, k4⟩⟩
          · rw [c1] at k4
            exact ⟨(I4, 0, 0, T, .inl (c, r)), hy I4 c2, Or.inr ⟨c, r, rfl, tw_self c3, tf_tr (tf_tr k2 h4) c4, k4⟩⟩
        rcases il_e (l := l) (s := s) (d := d) (tl := tl) (F := F) (J := J) h3.1 hlt with ⟨e4, hl⟩ | ⟨e4, hl⟩
        · rw [e4, Option.bind_some, if_neg (show ¬ mc1 .eq (nI 1) = true by decide)]
          have hcl : clf N tx (decide (k = 0)) m T (sk N tx p) = mirc N tx (decide (k = 0)) T (sk N tx p) := by
            unfold clf
            rw [if_pos hl]
          have hco := tm_e (l := l) (s := s) (d := d) (tl := tl) (F := F) (J := J) h3 hF (decide (k = 0))
          rw [← hcl] at hco
          refine fin hco ?_
          intro I4 hx
          unfold m78_47 m78_57
          by_cases hk0 : k = 0
          · rw [if_neg (show ¬ mc1 .ne (nI k) = true by rw [d_ne (by omega)]; omega)]
            rw [decide_eq_true hk0] at hx
            have hx' : e80 F 4 1 (mkH (hs l s d tl) I3 J) = some ((), (mkH (hs l s d tl) I4 J)) := hx
            rw [rc4, Option.bind_some, hx', Option.bind_some, n_1, nI_add]
          · rw [if_pos (show mc1 .ne (nI k) = true by rw [d_ne (by omega)]; exact hk0)]
            rw [decide_eq_false hk0] at hx
            have hx' : e80 F 4 0 (mkH (hs l s d tl) I3 J) = some ((), (mkH (hs l s d tl) I4 J)) := hx
            rw [rc4, Option.bind_some, hx', Option.bind_some, n_1, nI_add]
        · rw [e4, Option.bind_some, if_pos (show mc1 .eq (nI 0) = true by decide), rc4, Option.bind_some]
          have hcl : clf N tx (decide (k = 0)) m T (sk N tx p) = pairc N tx m T (sk N tx p) := by
            unfold clf
            rw [if_neg hl]
          have hco := tp_e (l := l) (s := s) (d := d) (tl := tl) (F := F) (J := J) h3 hF
          rw [← hcl] at hco
          refine fin hco ?_
          intro I4 hx
          unfold m78_57
          rw [hx, Option.bind_some, n_1, nI_add]
      · left
        rw [if_neg hlt] at k4
        rw [e3, Option.bind_some, if_pos (show mc1 .eq (nI 0) = true by decide)]
        exact done h3 (tf_tr k2 h4) k4
    · left
      rw [gi4_3, Option.bind_some, k1.2.2.2.1, if_pos (show mc1 .ne (nI c) = true by have a1 := k1.1; have a2 := k1.2.1; rw [d_ne (by omega)]; omega)]
      exact wrong k1 k2 k3
end S
