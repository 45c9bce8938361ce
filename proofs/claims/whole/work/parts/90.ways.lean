/-! The number of ways down, as both sides sum it. -/
noncomputable def cif (P : Prop) (a b : Int64) : Int64 := @ite Int64 P (Classical.propDecidable P) a b
theorem cif_p {P : Prop} {a b : Int64} (h : P) : cif P a b = a := if_pos h
theorem cif_n {P : Prop} {a b : Int64} (h : ¬ P) : cif P a b = b := if_neg h
def sumj : Nat → (Nat → Int64) → Int64
  | 0, _ => 0
  | k + 1, f => sumj k f + f k
theorem sumj_cg {k : Nat} {f g : Nat → Int64} (h : ∀ j, j < k → f j = g j) : sumj k f = sumj k g := by
  induction k with
  | zero => rfl
  | succ k ih => rw [sumj, sumj, ih (fun j hj => h j (by omega)), h k (by omega)]
theorem sumj_0 {k : Nat} : sumj k (fun _ => 0) = 0 := by
  induction k with
  | zero => rfl
  | succ k ih => rw [sumj, ih]; rfl
theorem sumj_add (k : Nat) (f g : Nat → Int64) : sumj k (fun j => f j + g j) = sumj k f + sumj k g := by
  induction k with
  | zero => rfl
  | succ k ih =>
    rw [sumj, sumj, sumj, ih]
    simp only [Int64.add_assoc]
    congr 1
    rw [← Int64.add_assoc, ← Int64.add_assoc, Int64.add_comm (sumj k g)]
theorem sumj_swap (m k : Nat) (h : Nat → Nat → Int64) : sumj m (fun i => sumj k (fun j => h i j)) = sumj k (fun j => sumj m (fun i => h i j)) := by
  induction m with
  | zero => exact sumj_0.symm
  | succ m ih =>
    rw [sumj, ih, ← sumj_add]
    exact sumj_cg (fun j _ => rfl)
theorem sumj_1 {m i0 : Nat} {f : Nat → Int64} (h0 : i0 < m) (h : ∀ i, i < m → i ≠ i0 → f i = 0) : sumj m f = f i0 := by
  induction m with
  | zero => omega
  | succ m ih =>
    rw [sumj]
    by_cases e : i0 = m
    · subst e
      rw [sumj_cg (g := fun _ => 0) (fun j hj => h j (by omega) (by omega)), sumj_0, Int64.zero_add]
    · rw [ih (by omega) (fun i hi hn => h i (by omega) hn), h m (by omega) (fun hh => e hh.symm), Int64.add_zero]
section S
variable {n : Nat} {A : Nat → Nat → Int}
/-- what element y, of which there are c ways, brings to z by its letters before j -/
noncomputable def ctr (n : Nat) (A : Nat → Nat → Int) (y : List Nat) (c : Int64) (j : Nat) (z : List Nat) : Int64 := sumj j (fun j => cif (dn n A y j ∧ cx_g n A (y ++ [j]) = cx_g n A z) c 0)
theorem ctr_s (y : List Nat) (c : Int64) (j : Nat) (z : List Nat) : ctr n A y c (j + 1) z = ctr n A y c j z + (cif (dn n A y j ∧ cx_g n A (y ++ [j]) = cx_g n A z) c 0) := rfl
theorem ctr_n {y z : List Nat} {c : Int64} {j : Nat} (h : ¬ dn n A y j) : ctr n A y c (j + 1) z = ctr n A y c j z := by
  rw [ctr_s, cif_n (fun hh => h hh.1), Int64.add_zero]
theorem ctr_y {y z : List Nat} {c : Int64} {j : Nat} (h : dn n A y j) (hg : cx_g n A (y ++ [j]) = cx_g n A z) : ctr n A y c (j + 1) z = ctr n A y c j z + c := by
  rw [ctr_s, cif_p ⟨h, hg⟩]
theorem ctr_o {y z : List Nat} {c : Int64} {j : Nat} (hg : cx_g n A (y ++ [j]) ≠ cx_g n A z) : ctr n A y c (j + 1) z = ctr n A y c j z := by
  rw [ctr_s, cif_n (fun hh => hg hh.2), Int64.add_zero]
theorem up_dn (hok : cx_ok n A) {y z : List Nat} (hy : cx_L n y) (hz : cx_L n z) {j : Nat} (hj : j < n) : (dn n A y j ∧ cx_g n A (y ++ [j]) = cx_g n A z) ↔ (¬ dn n A z j ∧ cx_g n A y = cx_g n A (z ++ [j])) := by
  constructor
  · rintro ⟨h1, h2⟩
    refine ⟨fun h => ?_, ?_⟩
    · exact (dn_dn hok hy hj).mp ((dn_g h2 j).mpr h) h1
    · rw [← cx_g_sr hok hj y]
      exact cx_g_ap1 [j] h2
  · rintro ⟨h1, h2⟩
    refine ⟨(dn_g h2 j).mpr ((dn_dn hok hz hj).mpr h1), ?_⟩
    rw [← cx_g_sr hok hj z]
    exact cx_g_ap1 [j] h2
/-- what all bring to z is the sum over the letters that z goes up by -/
theorem way_s (hok : cx_ok n A) {V : List Nat → Int64} {L : Nat → List Nat} {c : Nat → Int64} {m : Nat} {z : List Nat} (hz : cx_L n z) (hL : ∀ i, i < m → cx_L n (L i)) (hd : ∀ i i', i < m → i' < m → cx_g n A (L i) = cx_g n A (L i') → i = i') (hc : ∀ i j, i < m → j < n → ¬ dn n A z j → cx_g n A (L i) = cx_g n A (z ++ [j]) → c i = V (z ++ [j])) (h0 : ∀ j, j < n → ¬ dn n A z j → (∀ i, i < m → cx_g n A (L i) ≠ cx_g n A (z ++ [j])) → V (z ++ [j]) = 0) : sumj m (fun i => ctr n A (L i) (c i) n z) = sumj n (fun j => cif (dn n A z j) 0 (V (z ++ [j]))) := by
  unfold ctr
  rw [sumj_swap]
  refine sumj_cg (fun j hj => ?_)
  have e : sumj m (fun i => cif (dn n A (L i) j ∧ cx_g n A (L i ++ [j]) = cx_g n A z) (c i) 0) = sumj m (fun i => cif (¬ dn n A z j ∧ cx_g n A (L i) = cx_g n A (z ++ [j])) (c i) 0) := by
    refine sumj_cg (fun i hi => ?_)
    have := up_dn hok (hL i hi) hz hj
    by_cases h : dn n A (L i) j ∧ cx_g n A (L i ++ [j]) = cx_g n A z
    · rw [cif_p h, cif_p (this.mp h)]
    · rw [cif_n h, cif_n (fun hh => h (this.mpr hh))]
  rw [e]
  by_cases hdz : dn n A z j
  · rw [cif_p hdz, sumj_cg (g := fun _ => 0) (fun i _ => cif_n (fun hh => hh.1 hdz)), sumj_0]
  · rw [cif_n hdz]
    by_cases hex : ∃ i, i < m ∧ cx_g n A (L i) = cx_g n A (z ++ [j])
    · obtain ⟨i0, hi0, hg0⟩ := hex
      rw [sumj_1 hi0 (fun i hi hne => cif_n (fun hh => hne (hd i i0 hi hi0 (hh.2.trans hg0.symm)))), cif_p ⟨hdz, hg0⟩]
      exact hc i0 j hi0 hj hdz hg0
    · rw [sumj_cg (g := fun _ => 0) (fun i hi => cif_n (fun hh => hex ⟨i, hi, hh.2⟩)), sumj_0, h0 j hj hdz (fun i hi hg => hex ⟨i, hi, hg⟩)]
/-- the ways from x down to z in k steps -/
noncomputable def wys (n : Nat) (A : Nat → Nat → Int) (x : List Nat) : Nat → List Nat → Int64
  | 0, z => cif (cx_g n A x = cx_g n A z) 1 0
  | k + 1, z => sumj n (fun j => cif (dn n A z j) 0 (wys n A x k (z ++ [j])))
theorem wys_cg {x : List Nat} : ∀ (k : Nat) {z z' : List Nat}, cx_g n A z = cx_g n A z' → wys n A x k z = wys n A x k z' := by
  intro k
  induction k with
  | zero =>
    intro z z' h
    unfold wys
    rw [h]
  | succ k ih =>
    intro z z' h
    unfold wys
    refine sumj_cg (fun j hj => ?_)
    rw [ih (cx_g_ap1 [j] h)]
    by_cases hd : dn n A z j
    · rw [cif_p hd, cif_p ((dn_g h j).mp hd)]
    · rw [cif_n hd, cif_n (fun hh => hd ((dn_g h j).mpr hh))]
/-- ways there are only to what is shorter by their steps -/
theorem wys_0 (hok : cx_ok n A) {x : List Nat} : ∀ (k : Nat) {z : List Nat}, cx_L n z → cx_l n A z + k ≠ cx_l n A x → wys n A x k z = 0 := by
  intro k
  induction k with
  | zero =>
    intro z hz h
    unfold wys
    rw [cif_n (fun e => h (cx_l_eq e.symm))]
  | succ k ih =>
    intro z hz h
    unfold wys
    rw [sumj_cg (g := fun _ => 0) (fun j hj => ?_), sumj_0]
    by_cases hd : dn n A z j
    · rw [cif_p hd]
    · rw [cif_n hd]
      have hz' : cx_L n (z ++ [j]) := cx_L_app hz (cx_L_1 hj)
      refine ih hz' ?_
      have h1 := dn_1 hok hz' hj ((dn_dn hok hz hj).mpr hd)
      rw [cx_l_eq (cx_g_sr hok hj z)] at h1
      omega
end S
