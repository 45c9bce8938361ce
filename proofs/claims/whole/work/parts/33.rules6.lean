/-! String constants. -/
theorem oks {n a : Nat} (h : 1000000 ≤ a) : mokv n (.ref a) = true := decide_eq_true (Or.inr h)
theorem Rn.sr {d k pc n : Nat} {lv : List (Nat × Value)} {st st' : List Value} {hp : List mE} {c w : Nat} {r : mX} {i : Instr} (hi : ins k pc = some (i, n)) (h0 : mpure i st = none) (h1 : ∀ nL, mloc nL i lv st = none) (h2 : mjmp pc n i st = none) (h3 : mhp k i st hp = none) (h4 : mend k i n st = none) (h5 : mcl0 k i st = none) (h6 : mmk k i lv st hp = none) (h7 : mobj k i st = none) (h8 : mmn k i st = none) (h : msr k i st = some (st', n)) (hd : 5 ≤ d) (g : Rn d k (pc + n) lv st' hp c w r) : Rn d k pc lv st hp c w r := by
  obtain ⟨f, hf⟩ := g
  refine ⟨f + 1, ?_⟩
  unfold exec
  rw [hi]
  dsimp only
  rw [h0]
  dsimp only
  rw [h1]
  dsimp only
  rw [h2]
  dsimp only
  rw [h3]
  dsimp only
  rw [h4]
  dsimp only
  rw [h5]
  dsimp only
  rw [h6]
  dsimp only
  rw [h7]
  dsimp only
  rw [h8]
  dsimp only
  rw [h]
  dsimp only
  rw [if_pos ⟨rfl, hd⟩]
  exact hf
section RW
variable {d k pc o a : Nat} {lv : List (Nat × Value)} {st rr : List Value} {hp : List mE} {c w : Nat} {r : mX}
theorem Rn.sld {ix j : Nat} (hi : ins k pc = some (.ldc ix, 2)) (ho : mown k = o) (hn : plk o ix ilt = none) (hs : plk o ix slt = some j) (hd : 5 ≤ d) (g : Rn d k (pc + 2) lv (.ref (1000001 + j) :: st) hp c w r) : Rn d k pc lv st hp c w r :=
  Rn.sr hi rfl (fun _ => rfl) rfl (by simp only [mhp, ho, hn]; rfl) rfl rfl rfl rfl rfl (by simp only [msr, ho, hs]; rfl) hd g
theorem Rn.sln (hi : ins k pc = some (.invokevirtual slx.2.1, 3)) (ho : mown k = o) (hx : o = slx.1) (hm : plk o slx.2.1 mlt = none) (ha : a = 1000001 ∨ a = 1000002) (hcat : (rr.map fun v => v.category).sum ≤ 8) (hd : 5 ≤ d) (g : Rn d k (pc + 3) lv (.int (Int32.ofNat (sLen.getD (a - 1000001) 0) >>> ((0 : Int32) &&& 31)) :: rr) hp c w r) : Rn d k pc lv (.ref a :: rr) hp c w r :=
  Rn.sr hi rfl (fun _ => rfl) rfl rfl rfl (by simp only [mcl0, ho, hm]) rfl rfl rfl (by simp only [msr]; rw [if_pos ⟨ho.trans hx, trivial, ha, hcat⟩]) hd g
theorem Rn.sca {x : Int32} (hi : ins k pc = some (.invokevirtual slx.2.2, 3)) (ho : mown k = o) (hx : o = slx.1) (hm : plk o slx.2.2 mlt = none) (ha : (a = 1000001 ∨ a = 1000002) ∧ ¬ (x < 0 ∨ sLen.getD (a - 1000001) 0 ≤ x.toNatClampNeg)) (hcat : (rr.map fun v => v.category).sum ≤ 8) (hd : 5 ≤ d) (g : Rn d k (pc + 3) lv (.int (sch (a - 1000001) x) :: rr) hp c w r) : Rn d k pc lv (.int x :: .ref a :: rr) hp c w r :=
  Rn.sr hi rfl (fun _ => rfl) rfl rfl rfl (by simp only [mcl0, ho, hm]) rfl rfl rfl (by simp only [msr]; rw [if_pos ⟨ho.trans hx, trivial, ha.1, ha.2, hcat⟩]) hd g
end RW
