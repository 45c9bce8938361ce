/-! Calls of both: words. -/
section S
variable {l s d : Value} {tl : List hQ} {F : Nat} {I : hI} {J : hJ} {n : Nat} {T : tT} {els : List (List Nat)} {x : List Nat} {N : Nat} {tx : Nat → Nat} {fl : Int32}
theorem str_f {I' : hI} (h : str n T els x N tx fl I) (hc : ∀ c, 26 ≤ c → c < 54 → I' c = I c) : str n T els x N tx fl I' := by
  have e26 := hc 26 (by omega) (by omega)
  have e27 := hc 27 (by omega) (by omega)
  have e28 := hc 28 (by omega) (by omega)
  have e30 := hc 30 (by omega) (by omega)
  have e34 := hc 34 (by omega) (by omega)
  have e35 := hc 35 (by omega) (by omega)
  have e36 := hc 36 (by omega) (by omega)
  unfold str mo_n mo_t km dr rtb at *
  rw [e26, e27, e28, e30, e34, e35, e36]
  exact h
/-- words where Layers stands at b -/
theorem w16 {b : Nat} (h : st n T els x N tx fl I J) (hb54 : 54 ≤ b) (hS : lyS (hs l s d tl) b) (hb : sfb (b + 4) 4096 I) (hF : 9000 ≤ F) {j : Nat} {y : List Nat} (hy : els[j]? = some y) (h12 : y.length ≤ 12) : ∃ v I1 J1 J2, e29 F b (nI j) (mkH (hs l s d tl) I J) = some (v, (mkH (hs l s d tl) I1 J1)) ∧ e180 F 26 (nI j) (mkH (hs l s d tl) I1 J1) = some (v, (mkH (hs l s d tl) I1 J2)) ∧ st n T els x N tx fl I1 J2 ∧ sfb (b + 4) 4096 I1 ∧ (∀ c, c ≠ b + 4 → c ≠ b + 6 → c ≠ b + 7 → c ≠ b + 8 → I1 c = I c) ∧ ∀ c, 45 ≤ c → c ≠ b + 1 → c ≠ b + 2 → c ≠ b + 5 → J2 c = J c := by
  obtain ⟨hT, hcl, hrf⟩ := h
  obtain ⟨I1, J1, e1, f1, b1⟩ := cw_e (F := F) hS hcl.1 hcl.2.2.1 hb hF hy h12
  have hs1 := str_f hrf (fun c a1 a2 => f1.1 c (by omega) (by omega) (by omega) (by omega))
  obtain ⟨J2, e2, f2⟩ := wr_e (l := l) (s := s) (d := d) (tl := tl) (F := F) (J := J1) hs1.1 hs1.2.2.1 hF hy h12
  refine ⟨_, I1, J1, J2, e1, e2, ⟨hT, stc_r hcl (fun c hc => ⟨f1.1 c (by omega) (by omega) (by omega) (by omega), ?_⟩), hs1⟩, b1, f1.1, fun c a1 a2 a3 a4 => ?_⟩
  · rw [f2 c (by omega) (by omega) (by omega) (by omega) (by omega)]
    exact f1.2 c (by omega) (by omega) (by omega)
  · rw [f2 c (by omega) (by omega) (by omega) (by omega) (by omega)]
    exact f1.2 c a2 a3 a4
end S
