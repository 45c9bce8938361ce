/-! Null tests. -/
def gfq (ci f : Nat) (hp : List mE) (a : Nat) : Option (Option Nat) := match gfv ci f hp a with
  | some (.ref b) => some (some b)
  | some .null => some none
  | _ => none
theorem gfq_n {ci f a : Nat} {hp : List mE} {x : Option Nat} (hq : x = none) (h : gfq ci f hp a = some x) : gfv ci f hp a = some .null := by
  subst hq
  unfold gfq at h
  split at h
  · cases h
  · assumption
  · cases h
theorem gfq_s {ci f a : Nat} {hp : List mE} {x : Option Nat} (hq : ¬ x = none) (h : gfq ci f hp a = some x) : ∃ b, gfv ci f hp a = some (.ref b) := by
  unfold gfq at h
  split at h
  · exact ⟨_, by assumption⟩
  · cases h
    exact absurd rfl hq
  · cases h
section RU
variable {d k pc t : Nat} {lv : List (Nat × Value)} {st : List Value} {hp : List mE} {c w : Nat} {r : mX} {off : Int} {b : Nat}
theorem Rn.nt (hi : ins k pc = some (.ifnull off, 3)) (ht : (pc : Int) + off = (t : Int)) (g : Rn d k t lv st hp c w r) : Rn d k pc lv (.null :: st) hp c w r :=
  Rn.j hi rfl (fun _ => rfl) (by simp only [mjmp, mnl, mif, mtg_of ht]; rfl) g
theorem Rn.nf (hi : ins k pc = some (.ifnull off, 3)) (ht : (pc : Int) + off = (t : Int)) (g : Rn d k (pc + 3) lv st hp c w r) : Rn d k pc lv (.ref b :: st) hp c w r :=
  Rn.j hi rfl (fun _ => rfl) (by simp only [mjmp, mnl, mif, mtg_of ht]; rfl) g
theorem Rn.nnf (hi : ins k pc = some (.ifnonnull off, 3)) (ht : (pc : Int) + off = (t : Int)) (g : Rn d k (pc + 3) lv st hp c w r) : Rn d k pc lv (.null :: st) hp c w r :=
  Rn.j hi rfl (fun _ => rfl) (by simp only [mjmp, mnl, mif, mtg_of ht]; rfl) g
theorem Rn.nnt (hi : ins k pc = some (.ifnonnull off, 3)) (ht : (pc : Int) + off = (t : Int)) (g : Rn d k t lv st hp c w r) : Rn d k pc lv (.ref b :: st) hp c w r :=
  Rn.j hi rfl (fun _ => rfl) (by simp only [mjmp, mnl, mif, mtg_of ht]; rfl) g
theorem Rn.aret {a : Nat} {nm : String} (hi : ins k pc = some (.areturn, 1)) (hr : mret k = some (.object nm)) : Rn d k pc lv [.ref a] hp c w (some (.ref a), hp, c, w) :=
  Rn.e hi rfl (fun _ => rfl) rfl rfl (by simp only [mend, hr]; rfl)
end RU
