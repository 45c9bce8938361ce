/-! The answers about P. -/
section S
variable {l s d : Value} {tl : List hQ} {F : Nat} {I : hI} {J : hJ} {n : Nat} {A : Nat → Nat → Int} {y u : List Nat} {els : List (List Nat)} {f : List Nat → Nat → Int}
theorem cof_5 {v : Int64} {K : Nat} (h : 5 ≤ K) (hK : K < 2 ^ 31) : cofV v (nI K) = 0 := by
  unfold cofV
  rw [if_neg (show ¬ mc1 .lt (nI K) = true by rw [d_lt hK]; exact id)]
  have : ¬ mc2 .le (nI K) (nI 4) = true := by
    rw [c_le hK (by omega)]
    omega
  exact if_neg this
/-- what the class answers is the coefficient of P -/
theorem pans_v (hok : cx_ok n A) (yL : cx_L n y) (yl : cx_l n A y = y.length) (y8 : y.length ≤ 8) (hp : kpm n A y.length) (uL : cx_L n u) {K : Nat} (hK : K < 2 ^ 31) {v : Int32} (h : pAns n A (pkQ n A) u y (nI K) v) (kf : klo n A y f) : v = zI (f u K) := by
  obtain ⟨W, top, x, R, hA, hx, hg, hq, hv⟩ := h
  obtain ⟨f', kf0, hR⟩ := hq x hx
  have kf' := klo_g hg kf0
  have un : f' u K = f u K := klo_un hok yL kf' kf (cx_l n A y) u uL (by omega) K
  rcases hv with ⟨m, z, hz, hgz, rfl⟩ | ⟨hno, rfl⟩
  · have zL := (hA.2.2.1 m z hz).1
    rw [hR m z hz, ← un, ← kf'.1 z u hgz]
    by_cases h5 : K < 5
    · exact pk5_cof (fun k hk => hp y f' yL (by omega) kf' z zL k hk) h5
    · rw [cof_5 (by omega) hK, klo_hi kf' zL (by omega) (by omega)]
      rfl
  · have hI := bqA_idl hok yL yl hA
    rw [kf.2.1 u uL (fun hb => ?_) K]
    · rfl
    · obtain ⟨m, z, e1, e2⟩ := hI.2.2 u uL hb
      exact hno m z e1 e2
/-- the same of rough -/
theorem rans_v (hok : cx_ok n A) (yL : cx_L n y) (yl : cx_l n A y = y.length) (y8 : y.length ≤ 8) (hp : kpm n A y.length) {v : Int32} (h : rAns n A (pkQ n A) y v) (kf : klo n A y f) : ∃ W, bqA n A y W ∧ ∃ p : Nat → Bool, v = nI ((List.range W.length).filter p).length ∧ ∀ (m : Nat) (z : List Nat), W[m]? = some z → (p m = true ↔ ¬ ∀ k, f z k = if k = 0 then 1 else 0) := by
  obtain ⟨W, top, x, R, hA, hx, hg, hq, rfl⟩ := h
  obtain ⟨f', kf0, hR⟩ := hq x hx
  have kf' := klo_g hg kf0
  refine ⟨W, hA, _, rfl, fun m z hz => ?_⟩
  have zL := (hA.2.2.1 m z hz).1
  have un : ∀ k, f' z k = f z k := fun k => klo_un hok yL kf' kf (cx_l n A y) z zL (by omega) k
  have e := pk5_1 (fun k hk => hp y f' yL (by omega) kf' z zL k hk)
  rw [decide_eq_true_eq, hR m z hz]
  refine not_congr (e.trans ⟨fun h k => ?_, fun h k _ => (un k).trans (h k)⟩)
  by_cases h5 : k < 5
  · rw [← un k]
    exact h k h5
  · rw [← un k, klo_hi kf' zL (by omega) (by omega), if_neg (by omega)]
end S
