/-! A call of both from what stands to what stands. -/
def sms (hp : List mE) : Nat := ((hp.map knd).map (fun q => q.2.2)).sum
def IV (hp : List mE) : Prop := ∃ (l s d : Value) (tl : List hQ) (n : Nat) (T : tT) (els : List (List Nat)) (x : List Nat) (N : Nat) (tx : Nat → Nat) (fl : Int32) (I : hI) (J : hJ), hp = mkH (hs l s d tl) I J ∧ inv l s d tl n T els x N tx fl I J
/-- the numbers of P of every group of a text are in range -/
def KP : Prop := ∀ (n : Nat) (T : tT), tok T → 1 ≤ n → n ≤ 5 → kpos n (gA T)
/-- one call of both: what they answer, and what they leave -/
def LStu (nm o : Nat) (a b d : Int32) (hp hp2 : List mE) (v v' : Value) (c' w' : Nat) : Prop :=
  ∃ (f g : Nat) (hp1 : List mE) (c1 w1 c2 w2 : Nat) (gs : List Value), (if lty o = true then (∃ x, v = .long x) ∧ ∃ x, v' = .long x else (∃ x, v = .int x) ∧ ∃ x, v' = .int x) ∧ exec f 30 (lkx o) 0 (lv_args 0 (.ref 0 :: larg o a b d)) [] hp 0 0 = some (some v, hp1, c1, w1) ∧ hp1[nm]? = some (.inr (11, gs)) ∧ exec g 30 (lkm o) 0 (lv_args 0 (.ref nm :: larg o a b d)) [] hp1 0 0 = some (some v', hp2, c2, w2) ∧ c' = c1 + c2 ∧ w' = w1 + w2
def NX (C : Prop) (o : Nat) (a b d : Int32) (hp : List mE) : Prop := ∃ (v v' : Value) (hp2 : List mE) (c' w' : Nat), LStu 26 o a b d hp hp2 v v' c' w' ∧ (o < 26 ∨ C → v = v') ∧ hp.length + c' = hp2.length ∧ sms hp + w' = sms hp2 ∧ IV hp2
theorem lstu_of {nm o : Nat} {a b d : Int32} {hp hp1 hp2 : List mE} {v v' : Value} {gs : List Value} (hv : if lty o = true then (∃ x, v = .long x) ∧ ∃ x, v' = .long x else (∃ x, v = .int x) ∧ ∃ x, v' = .int x) (hx : ∃ c1 w1, Rn 30 (lkx o) 0 (lv_args 0 (.ref 0 :: larg o a b d)) [] hp 0 0 (some v, hp1, c1, w1)) (hg : hp1[nm]? = some (.inr (11, gs))) (hm : ∃ c2 w2, Rn 30 (lkm o) 0 (lv_args 0 (.ref nm :: larg o a b d)) [] hp1 0 0 (some v', hp2, c2, w2)) :
    ∃ (c' w' : Nat) (nw : List (Nat × Nat × Nat)), LStu nm o a b d hp hp2 v v' c' w' ∧ hp2.map knd = hp.map knd ++ nw ∧ c' = nw.length ∧ w' = (nw.map (fun q => q.2.2)).sum := by
  obtain ⟨c1, w1, f, hf⟩ := hx
  obtain ⟨c2, w2, g, hg2⟩ := hm
  obtain ⟨n1, k1, s1⟩ := exec_kn _ _ _ _ _ _ _ _ _ _ _ _ _ hf
  obtain ⟨n2, k2, s2⟩ := exec_kn _ _ _ _ _ _ _ _ _ _ _ _ _ hg2
  have l1 := exec_len _ _ _ _ _ _ _ _ _ _ _ _ _ hf
  have l2 := exec_len _ _ _ _ _ _ _ _ _ _ _ _ _ hg2
  have e1 := congrArg List.length k1
  have e2 := congrArg List.length k2
  simp only [List.length_map, List.length_append] at e1 e2
  refine ⟨c1 + c2, w1 + w2, n1 ++ n2, ⟨f, g, hp1, c1, w1, c2, w2, gs, hv, hf, hg, hg2, rfl, rfl⟩, by rw [k2, k1, List.append_assoc], ?_, ?_⟩
  · rw [List.length_append]
    omega
  · rw [List.map_append, List.sum_append]
    omega
section S
variable {l s d : Value} {tl : List hQ} {F : Nat} {I : hI} {J : hJ} {n : Nat} {T : tT} {els : List (List Nat)} {x : List Nat} {N : Nat} {tx : Nat → Nat} {fl : Int32}
theorem hs_lt {k : Nat} (h : k < 54) : k < (mkH (hs l s d tl) I J).length := by
  rw [mkH_len, hs_len]
  omega
theorem nxt {C : Prop} {l1 s1 d1 : Value} {tl1 : List hQ} {n1 : Nat} {T1 : tT} {els1 : List (List Nat)} {x1 : List Nat} {N1 : Nat} {tx1 : Nat → Nat} {fl1 : Int32} {I1 I2 : hI} {J1 J2 : hJ} {o : Nat} {a b e : Int32} {v v' : Value} (hv : if lty o = true then (∃ x, v = .long x) ∧ ∃ x, v' = .long x else (∃ x, v = .int x) ∧ ∃ x, v' = .int x) (he : o < 26 ∨ C → v = v') (hx : ∃ c1 w1, Rn 30 (lkx o) 0 (lv_args 0 (.ref 0 :: larg o a b e)) [] (mkH (hs l s d tl) I J) 0 0 (some v, mkH (hs l1 s1 d1 tl1) I1 J1, c1, w1)) (hm : ∃ c2 w2, Rn 30 (lkm o) 0 (lv_args 0 (.ref 26 :: larg o a b e)) [] (mkH (hs l1 s1 d1 tl1) I1 J1) 0 0 (some v', mkH (hs l1 s1 d1 tl1) I2 J2, c2, w2)) (hi : inv l1 s1 d1 tl1 n1 T1 els1 x1 N1 tx1 fl1 I2 J2) : NX C o a b e (mkH (hs l s d tl) I J) := by
  have hg : (mkH (hs l1 s1 d1 tl1) I1 J1)[26]? = some (.inr (11, hF I1 J1 26 0 hb26)) := by
    rw [mkH_get, q26]
    rfl
  obtain ⟨c', w', nw, h1, h2, h3, h4⟩ := lstu_of hv hx hg hm
  refine ⟨v, v', _, c', w', h1, he, ?_, ?_, ⟨l1, s1, d1, tl1, n1, T1, els1, x1, N1, tx1, fl1, I2, J2, rfl, hi⟩⟩
  · have e1 := congrArg List.length h2
    rw [List.length_map, List.length_append, List.length_map] at e1
    omega
  · unfold sms
    rw [h2, List.map_append, List.sum_append, h4]
theorem ap_get (r : List (List Nat)) (w : Nat) (y : List Nat) (h : els[w]? = some y) : (els ++ r)[w]? = some y := by
  rw [List.getElem?_append_left (List.getElem?_eq_some_iff.mp h).1]
  exact h

theorem nx0 (hi : inv l s d tl n T els x N tx fl I J) (hF : 9000 ≤ F) (a b e : Int32) : NX (kpE n (gA T) els) 0 a b e (mkH (hs l s d tl) I J) := by
  obtain ⟨v, I1, J1, I2, J2, e1, e2, N2, tx2, h2, f2⟩ := op0 (F := F) (l := l) (s := s) (d := d) (tl := tl) hi.1 (by omega) a (lfd b e)
  exact nxt (o := 0) (v := .int v) (v' := .int v) (by rw [if_neg (show ¬ lty 0 = true by decide)]; exact ⟨⟨v, rfl⟩, ⟨v, rfl⟩⟩) (fun _ => rfl) (⟨0, 0, c104 (d := 30) (by decide) F 0 a (lfd b e) _ _ _ (hs_lt (by decide)) e1⟩) ⟨0, 0, c139 (d := 30) (by decide) F 26 a (lfd b e) _ _ _ (hs_lt (by decide)) e2⟩ (inv_o hi h2 (fun _ _ q => q) f2)
theorem nx1 (hi : inv l s d tl n T els x N tx fl I J) (hF : 9000 ≤ F) (a b e : Int32) : NX (kpE n (gA T) els) 1 a b e (mkH (hs l s d tl) I J) := by
  obtain ⟨v, I1, J1, I2, J2, e1, e2, n2, T2, els2, x2, fl2, h2, f2⟩ := op1 (F := F) hi.1 hi.2.1 (by omega)
  rcases f2 with ⟨rfl, rfl, rfl, f2⟩ | ⟨-, f2⟩
  · exact nxt (o := 1) (v := .int v) (v' := .int v) (by rw [if_neg (show ¬ lty 1 = true by decide)]; exact ⟨⟨v, rfl⟩, ⟨v, rfl⟩⟩) (fun _ => rfl) (⟨0, 0, c105 (d := 30) (by decide) F 0 _ _ _ (hs_lt (by decide)) e1⟩) ⟨0, 0, c148 (d := 30) (by decide) F 26 _ _ _ (hs_lt (by decide)) e2⟩ (inv_o hi h2 (fun _ _ q => q) f2)
  · exact nxt (o := 1) (v := .int v) (v' := .int v) (by rw [if_neg (show ¬ lty 1 = true by decide)]; exact ⟨⟨v, rfl⟩, ⟨v, rfl⟩⟩) (fun _ => rfl) (⟨0, 0, c105 (d := 30) (by decide) F 0 _ _ _ (hs_lt (by decide)) e1⟩) ⟨0, 0, c148 (d := 30) (by decide) F 26 _ _ _ (hs_lt (by decide)) e2⟩ (inv_r hi h2 f2)
theorem nx2 (hi : inv l s d tl n T els x N tx fl I J) (hF : 9000 ≤ F) (a b e : Int32) : NX (kpE n (gA T) els) 2 a b e (mkH (hs l s d tl) I J) := by
  obtain ⟨v, I1, J1, I2, J2, e1, e2, rfl, rfl⟩ := op2 (F := F) (l := l) (s := s) (d := d) (tl := tl) hi.1 
  exact nxt (o := 2) (v := .int v) (v' := .int v) (by rw [if_neg (show ¬ lty 2 = true by decide)]; exact ⟨⟨v, rfl⟩, ⟨v, rfl⟩⟩) (fun _ => rfl) (⟨0, 0, c107 (d := 30) (by decide) F 0 _ _ _ (hs_lt (by decide)) e1⟩) ⟨0, 0, c149 (d := 30) (by decide) F 26 _ _ _ (hs_lt (by decide)) e2⟩ (hi)
theorem nx3 (hi : inv l s d tl n T els x N tx fl I J) (hF : 9000 ≤ F) (a b e : Int32) : NX (kpE n (gA T) els) 3 a b e (mkH (hs l s d tl) I J) := by
  obtain ⟨v, I1, J1, I2, J2, e1, e2, rfl, rfl⟩ := op3 (F := F) (l := l) (s := s) (d := d) (tl := tl) hi.1 a b
  exact nxt (o := 3) (v := .int v) (v' := .int v) (by rw [if_neg (show ¬ lty 3 = true by decide)]; exact ⟨⟨v, rfl⟩, ⟨v, rfl⟩⟩) (fun _ => rfl) (⟨0, 0, c108 (d := 30) (by decide) F 0 a b _ _ _ (hs_lt (by decide)) e1⟩) ⟨0, 0, c151 (d := 30) (by decide) F 26 a b _ _ _ (hs_lt (by decide)) e2⟩ (hi)
theorem nx4 (hi : inv l s d tl n T els x N tx fl I J) (hF : 9000 ≤ F) (a b e : Int32) : NX (kpE n (gA T) els) 4 a b e (mkH (hs l s d tl) I J) := by
  obtain ⟨v, I1, J1, I2, J2, e1, e2, rfl, rfl⟩ := op4 (F := F) (l := l) (s := s) (d := d) (tl := tl) hi.1 a b
  exact nxt (o := 4) (v := .int v) (v' := .int v) (by rw [if_neg (show ¬ lty 4 = true by decide)]; exact ⟨⟨v, rfl⟩, ⟨v, rfl⟩⟩) (fun _ => rfl) (⟨0, 0, c109 (d := 30) (by decide) F 0 a b _ _ _ (hs_lt (by decide)) e1⟩) ⟨0, 0, c152 (d := 30) (by decide) F 26 a b _ _ _ (hs_lt (by decide)) e2⟩ (hi)
theorem nx5 (hi : inv l s d tl n T els x N tx fl I J) (hF : 9000 ≤ F) (a b e : Int32) : NX (kpE n (gA T) els) 5 a b e (mkH (hs l s d tl) I J) := by
  obtain ⟨v, I1, J1, I2, J2, e1, e2, rfl, rfl⟩ := op5 (F := F) (l := l) (s := s) (d := d) (tl := tl) hi.1 a
  exact nxt (o := 5) (v := .int v) (v' := .int v) (by rw [if_neg (show ¬ lty 5 = true by decide)]; exact ⟨⟨v, rfl⟩, ⟨v, rfl⟩⟩) (fun _ => rfl) (⟨0, 0, c110 (d := 30) (by decide) F 0 a _ _ _ (hs_lt (by decide)) e1⟩) ⟨0, 0, c153 (d := 30) (by decide) F 26 a _ _ _ (hs_lt (by decide)) e2⟩ (hi)
theorem nx6 (hi : inv l s d tl n T els x N tx fl I J) (hF : 9000 ≤ F) (a b e : Int32) : NX (kpE n (gA T) els) 6 a b e (mkH (hs l s d tl) I J) := by
  obtain ⟨v, I1, J1, I2, J2, e1, e2, x2, h2, f2⟩ := op6 (F := F) (l := l) (s := s) (d := d) (tl := tl) hi.1 a
  exact nxt (o := 6) (v := .int v) (v' := .int v) (by rw [if_neg (show ¬ lty 6 = true by decide)]; exact ⟨⟨v, rfl⟩, ⟨v, rfl⟩⟩) (fun _ => rfl) (⟨0, 0, c111 (d := 30) (by decide) F 0 a _ _ _ (hs_lt (by decide)) e1⟩) ⟨0, 0, c161 (d := 30) (by decide) F 26 a _ _ _ (hs_lt (by decide)) e2⟩ (inv_o hi h2 (fun _ _ q => q) f2)
theorem nx7 (hi : inv l s d tl n T els x N tx fl I J) (hF : 9000 ≤ F) (a b e : Int32) : NX (kpE n (gA T) els) 7 a b e (mkH (hs l s d tl) I J) := by
  obtain ⟨v, I1, J1, I2, J2, e1, e2, r2, x2, h2, f2⟩ := op7 (F := F) (l := l) (s := s) (d := d) (tl := tl) hi.1 (by omega)
  exact nxt (o := 7) (v := .int v) (v' := .int v) (by rw [if_neg (show ¬ lty 7 = true by decide)]; exact ⟨⟨v, rfl⟩, ⟨v, rfl⟩⟩) (fun _ => rfl) (⟨0, 0, c112 (d := 30) (by decide) F 0 _ _ _ (hs_lt (by decide)) e1⟩) ⟨0, 0, c166 (d := 30) (by decide) F 26 _ _ _ (hs_lt (by decide)) e2⟩ (inv_o hi h2 (ap_get r2) f2)
theorem nx8 (hi : inv l s d tl n T els x N tx fl I J) (hF : 9000 ≤ F) (a b e : Int32) : NX (kpE n (gA T) els) 8 a b e (mkH (hs l s d tl) I J) := by
  obtain ⟨v, I1, J1, I2, J2, e1, e2, rfl, rfl⟩ := op8 (F := F) (l := l) (s := s) (d := d) (tl := tl) hi.1 a
  exact nxt (o := 8) (v := .int v) (v' := .int v) (by rw [if_neg (show ¬ lty 8 = true by decide)]; exact ⟨⟨v, rfl⟩, ⟨v, rfl⟩⟩) (fun _ => rfl) (⟨0, 0, c113 (d := 30) (by decide) F 0 a _ _ _ (hs_lt (by decide)) e1⟩) ⟨0, 0, c167 (d := 30) (by decide) F 26 a _ _ _ (hs_lt (by decide)) e2⟩ (hi)
theorem nx9 (hi : inv l s d tl n T els x N tx fl I J) (hF : 9000 ≤ F) (a b e : Int32) : NX (kpE n (gA T) els) 9 a b e (mkH (hs l s d tl) I J) := by
  obtain ⟨v, I1, J1, I2, J2, e1, e2, rfl, rfl⟩ := op9 (F := F) (l := l) (s := s) (d := d) (tl := tl) hi.1 a b
  exact nxt (o := 9) (v := .int v) (v' := .int v) (by rw [if_neg (show ¬ lty 9 = true by decide)]; exact ⟨⟨v, rfl⟩, ⟨v, rfl⟩⟩) (fun _ => rfl) (⟨0, 0, c114 (d := 30) (by decide) F 0 a b _ _ _ (hs_lt (by decide)) e1⟩) ⟨0, 0, c168 (d := 30) (by decide) F 26 a b _ _ _ (hs_lt (by decide)) e2⟩ (hi)
theorem nx10 (hi : inv l s d tl n T els x N tx fl I J) (hF : 9000 ≤ F) (a b e : Int32) : NX (kpE n (gA T) els) 10 a b e (mkH (hs l s d tl) I J) := by
  obtain ⟨v, I1, J1, I2, J2, e1, e2, h2, f2⟩ := op10 (F := F) (l := l) (s := s) (d := d) (tl := tl) hi.1 (by omega) a b
  exact nxt (o := 10) (v := .int v) (v' := .int v) (by rw [if_neg (show ¬ lty 10 = true by decide)]; exact ⟨⟨v, rfl⟩, ⟨v, rfl⟩⟩) (fun _ => rfl) (⟨0, 0, c115 (d := 30) (by decide) F 0 a b _ _ _ (hs_lt (by decide)) e1⟩) ⟨0, 0, c170 (d := 30) (by decide) F 26 a b _ _ _ (hs_lt (by decide)) e2⟩ (inv_o hi h2 (fun _ _ q => q) f2)
theorem nx11 (hi : inv l s d tl n T els x N tx fl I J) (hF : 9000 ≤ F) (a b e : Int32) : NX (kpE n (gA T) els) 11 a b e (mkH (hs l s d tl) I J) := by
  obtain ⟨v, I1, J1, I2, J2, e1, e2, h2, f2⟩ := op11 (F := F) (l := l) (s := s) (d := d) (tl := tl) hi.1 (by omega) a b e
  exact nxt (o := 11) (v := .long v) (v' := .long v) (by rw [if_pos (show lty 11 = true from rfl)]; exact ⟨⟨v, rfl⟩, ⟨v, rfl⟩⟩) (fun _ => rfl) (⟨0, 0, c116 (d := 30) (by decide) F 0 a b e _ _ _ (hs_lt (by decide)) e1⟩) ⟨0, 0, c171 (d := 30) (by decide) F 26 a b e _ _ _ (hs_lt (by decide)) e2⟩ (inv_o hi h2 (fun _ _ q => q) f2)
theorem nx12 (hi : inv l s d tl n T els x N tx fl I J) (hF : 9000 ≤ F) (a b e : Int32) : NX (kpE n (gA T) els) 12 a b e (mkH (hs l s d tl) I J) := by
  obtain ⟨v, I1, J1, I2, J2, e1, e2, r2, h2, f2⟩ := op12 (F := F) (l := l) (s := s) (d := d) (tl := tl) hi.1 (by omega) a b
  exact nxt (o := 12) (v := .int v) (v' := .int v) (by rw [if_neg (show ¬ lty 12 = true by decide)]; exact ⟨⟨v, rfl⟩, ⟨v, rfl⟩⟩) (fun _ => rfl) (⟨0, 0, c117 (d := 30) (by decide) F 0 a b _ _ _ (hs_lt (by decide)) e1⟩) ⟨0, 0, c172 (d := 30) (by decide) F 26 a b _ _ _ (hs_lt (by decide)) e2⟩ (inv_o hi h2 (ap_get r2) f2)
theorem nx13 (hi : inv l s d tl n T els x N tx fl I J) (hF : 9000 ≤ F) (a b e : Int32) : NX (kpE n (gA T) els) 13 a b e (mkH (hs l s d tl) I J) := by
  obtain ⟨v, I1, J1, I2, J2, e1, e2, r2, h2, f2⟩ := op13 (F := F) (l := l) (s := s) (d := d) (tl := tl) hi.1 (by omega) a
  exact nxt (o := 13) (v := .int v) (v' := .int v) (by rw [if_neg (show ¬ lty 13 = true by decide)]; exact ⟨⟨v, rfl⟩, ⟨v, rfl⟩⟩) (fun _ => rfl) (⟨0, 0, c118 (d := 30) (by decide) F 0 a _ _ _ (hs_lt (by decide)) e1⟩) ⟨0, 0, c173 (d := 30) (by decide) F 26 a _ _ _ (hs_lt (by decide)) e2⟩ (inv_o hi h2 (ap_get r2) f2)
theorem nx14 (hi : inv l s d tl n T els x N tx fl I J) (hF : 9000 ≤ F) (a b e : Int32) : NX (kpE n (gA T) els) 14 a b e (mkH (hs l s d tl) I J) := by
  obtain ⟨v, I1, J1, I2, J2, e1, e2, h2, f2⟩ := op14 (F := F) (l := l) (s := s) (d := d) (tl := tl) hi.1 (by omega) a b
  exact nxt (o := 14) (v := .int v) (v' := .int v) (by rw [if_neg (show ¬ lty 14 = true by decide)]; exact ⟨⟨v, rfl⟩, ⟨v, rfl⟩⟩) (fun _ => rfl) (⟨0, 0, c119 (d := 30) (by decide) F 0 a b _ _ _ (hs_lt (by decide)) e1⟩) ⟨0, 0, c175 (d := 30) (by decide) F 26 a b _ _ _ (hs_lt (by decide)) e2⟩ (inv_o hi h2 (fun _ _ q => q) f2)
theorem nx15 (hi : inv l s d tl n T els x N tx fl I J) (hF : 9000 ≤ F) (a b e : Int32) : NX (kpE n (gA T) els) 15 a b e (mkH (hs l s d tl) I J) := by
  obtain ⟨v, I1, J1, I2, J2, e1, e2, h2, f2⟩ := op15 (F := F) (l := l) (s := s) (d := d) (tl := tl) hi.1 (by omega) a
  exact nxt (o := 15) (v := .int v) (v' := .int v) (by rw [if_neg (show ¬ lty 15 = true by decide)]; exact ⟨⟨v, rfl⟩, ⟨v, rfl⟩⟩) (fun _ => rfl) (⟨0, 0, c120 (d := 30) (by decide) F 0 a _ _ _ (hs_lt (by decide)) e1⟩) ⟨0, 0, c179 (d := 30) (by decide) F 26 a _ _ _ (hs_lt (by decide)) e2⟩ (inv_o hi h2 (fun _ _ q => q) f2)
theorem nx16 (hi : inv l s d tl n T els x N tx fl I J) (hF : 9000 ≤ F) (a b e : Int32) : NX (kpE n (gA T) els) 16 a b e (mkH (hs l s d tl) I J) := by
  have ll := lay_len hi.2.2.2.1
  obtain ⟨v, l2, tl2, I1, J1, I2, J2, e1, e2, h2, g1, g2, g3⟩ := op16 (F := F) hi.1 hi.2.1 hi.2.2.1 (by omega) (fun b q => (hi.2.2.2.2.1 b q).1) hF a
  exact nxt (o := 16) (v := .long v) (v' := .long v) (by rw [if_pos (show lty 16 = true from rfl)]; exact ⟨⟨v, rfl⟩, ⟨v, rfl⟩⟩) (fun _ => rfl) (a121 (d := 30) (by decide) F 0 a _ _ _ (hs_lt (by decide)) e1 0 0) ⟨0, 0, c180 (d := 30) (by decide) F 26 a _ _ _ (hs_lt (by decide)) e2⟩ (inv_w hi h2 g1 g2 g3)
theorem nx17 (hi : inv l s d tl n T els x N tx fl I J) (hF : 9000 ≤ F) (a b e : Int32) : NX (kpE n (gA T) els) 17 a b e (mkH (hs l s d tl) I J) := by
  obtain ⟨v, I1, J1, I2, J2, e1, e2, h2, f2⟩ := op17 (F := F) (l := l) (s := s) (d := d) (tl := tl) hi.1 (by omega) a b
  exact nxt (o := 17) (v := .int v) (v' := .int v) (by rw [if_neg (show ¬ lty 17 = true by decide)]; exact ⟨⟨v, rfl⟩, ⟨v, rfl⟩⟩) (fun _ => rfl) (⟨0, 0, c122 (d := 30) (by decide) F 0 a b _ _ _ (hs_lt (by decide)) e1⟩) ⟨0, 0, c181 (d := 30) (by decide) F 26 a b _ _ _ (hs_lt (by decide)) e2⟩ (inv_o hi h2 (fun _ _ q => q) f2)
theorem nx18 (hi : inv l s d tl n T els x N tx fl I J) (hF : 9000 ≤ F) (a b e : Int32) : NX (kpE n (gA T) els) 18 a b e (mkH (hs l s d tl) I J) := by
  obtain ⟨v, I1, J1, I2, J2, e1, e2, h2, f2⟩ := op18 (F := F) (l := l) (s := s) (d := d) (tl := tl) hi.1 (by omega) a b e
  exact nxt (o := 18) (v := .long v) (v' := .long v) (by rw [if_pos (show lty 18 = true from rfl)]; exact ⟨⟨v, rfl⟩, ⟨v, rfl⟩⟩) (fun _ => rfl) (⟨0, 0, c123 (d := 30) (by decide) F 0 a b e _ _ _ (hs_lt (by decide)) e1⟩) ⟨0, 0, c183 (d := 30) (by decide) F 26 a b e _ _ _ (hs_lt (by decide)) e2⟩ (inv_o hi h2 (fun _ _ q => q) f2)
theorem nx19 (hi : inv l s d tl n T els x N tx fl I J) (hF : 9000 ≤ F) (a b e : Int32) : NX (kpE n (gA T) els) 19 a b e (mkH (hs l s d tl) I J) := by
  obtain ⟨v, I1, J1, I2, J2, e1, e2, r2, h2, f2⟩ := op19 (F := F) (l := l) (s := s) (d := d) (tl := tl) hi.1 (by omega) a b e
  exact nxt (o := 19) (v := .int v) (v' := .int v) (by rw [if_neg (show ¬ lty 19 = true by decide)]; exact ⟨⟨v, rfl⟩, ⟨v, rfl⟩⟩) (fun _ => rfl) (⟨0, 0, c124 (d := 30) (by decide) F 0 a b e _ _ _ (hs_lt (by decide)) e1⟩) ⟨0, 0, c186 (d := 30) (by decide) F 26 a b e _ _ _ (hs_lt (by decide)) e2⟩ (inv_o hi h2 (ap_get r2) f2)
theorem nx20 (hi : inv l s d tl n T els x N tx fl I J) (hF : 9000 ≤ F) (a b e : Int32) : NX (kpE n (gA T) els) 20 a b e (mkH (hs l s d tl) I J) := by
  obtain ⟨v, I1, J1, I2, J2, e1, e2, h2, f2⟩ := op20 (F := F) (l := l) (s := s) (d := d) (tl := tl) hi.1 (by omega) a b e
  exact nxt (o := 20) (v := .int v) (v' := .int v) (by rw [if_neg (show ¬ lty 20 = true by decide)]; exact ⟨⟨v, rfl⟩, ⟨v, rfl⟩⟩) (fun _ => rfl) (⟨0, 0, c125 (d := 30) (by decide) F 0 a b e _ _ _ (hs_lt (by decide)) e1⟩) ⟨0, 0, c189 (d := 30) (by decide) F 26 a b e _ _ _ (hs_lt (by decide)) e2⟩ (inv_o hi h2 (fun _ _ q => q) f2)
theorem nx21 (hi : inv l s d tl n T els x N tx fl I J) (hF : 9000 ≤ F) (a b e : Int32) : NX (kpE n (gA T) els) 21 a b e (mkH (hs l s d tl) I J) := by
  have ll := lay_len hi.2.2.2.1
  obtain ⟨v, l2, tl2, I1, J1, I2, J2, e1, e2, h2, g1, g2, g3, g4, g5, g6⟩ := op21 (F := F) hi.1 hi.2.1 hi.2.2.1 (by omega) hi.2.2.2.2.1 hF a
  exact nxt (o := 21) (v := .int v) (v' := .int v) (by rw [if_neg (show ¬ lty 21 = true by decide)]; exact ⟨⟨v, rfl⟩, ⟨v, rfl⟩⟩) (fun _ => rfl) (a126 (d := 30) (by decide) F 0 a _ _ _ (hs_lt (by decide)) e1 0 0) ⟨0, 0, c192 (d := 30) (by decide) F 26 a _ _ _ (hs_lt (by decide)) e2⟩ (inv_l hi h2 g1 g2 g3 g4 g5 g6)
theorem nx22 (hi : inv l s d tl n T els x N tx fl I J) (hF : 9000 ≤ F) (a b e : Int32) : NX (kpE n (gA T) els) 22 a b e (mkH (hs l s d tl) I J) := by
  have ll := lay_len hi.2.2.2.1
  obtain ⟨v, l2, tl2, I1, J1, I2, J2, e1, e2, h2, g1, g2, g3, g4, g5, g6⟩ := op22 (F := F) hi.1 hi.2.1 hi.2.2.1 (by omega) hi.2.2.2.2.1 hF a
  exact nxt (o := 22) (v := .int v) (v' := .int v) (by rw [if_neg (show ¬ lty 22 = true by decide)]; exact ⟨⟨v, rfl⟩, ⟨v, rfl⟩⟩) (fun _ => rfl) (a127 (d := 30) (by decide) F 0 a _ _ _ (hs_lt (by decide)) e1 0 0) ⟨0, 0, c193 (d := 30) (by decide) F 26 a _ _ _ (hs_lt (by decide)) e2⟩ (inv_l hi h2 g1 g2 g3 g4 g5 g6)
theorem nx23 (hi : inv l s d tl n T els x N tx fl I J) (hF : 9000 ≤ F) (a b e : Int32) : NX (kpE n (gA T) els) 23 a b e (mkH (hs l s d tl) I J) := by
  obtain ⟨v, I1, J1, I2, J2, e1, e2, h2, f2⟩ := op23 (F := F) (l := l) (s := s) (d := d) (tl := tl) hi.1 (by omega) a
  exact nxt (o := 23) (v := .int v) (v' := .int v) (by rw [if_neg (show ¬ lty 23 = true by decide)]; exact ⟨⟨v, rfl⟩, ⟨v, rfl⟩⟩) (fun _ => rfl) (⟨0, 0, c129 (d := 30) (by decide) F 0 a _ _ _ (hs_lt (by decide)) e1⟩) ⟨0, 0, c194 (d := 30) (by decide) F 26 a _ _ _ (hs_lt (by decide)) e2⟩ (inv_o hi h2 (fun _ _ q => q) f2)
theorem nx24 (hi : inv l s d tl n T els x N tx fl I J) (hF : 9000 ≤ F) (a b e : Int32) : NX (kpE n (gA T) els) 24 a b e (mkH (hs l s d tl) I J) := by
  have ll := lay_len hi.2.2.2.1
  obtain ⟨v, s2, tl2, I1, J1, I2, J2, e1, e2, h2, g1, g2, g3, g4, g5, g6⟩ := op24 (F := F) hi.1 hi.2.1 hi.2.2.1 (by omega) hi.2.2.2.2.2.1 hF a b
  exact nxt (o := 24) (v := .int v) (v' := .int v) (by rw [if_neg (show ¬ lty 24 = true by decide)]; exact ⟨⟨v, rfl⟩, ⟨v, rfl⟩⟩) (fun _ => rfl) (a130 (d := 30) (by decide) F 0 a b _ _ _ (hs_lt (by decide)) e1 0 0) ⟨0, 0, c197 (d := 30) (by decide) F 26 a b _ _ _ (hs_lt (by decide)) e2⟩ (inv_s hi h2 g1 g2 g3 g4 g5 g6)
theorem nx25 (hi : inv l s d tl n T els x N tx fl I J) (hF : 9000 ≤ F) (a b e : Int32) : NX (kpE n (gA T) els) 25 a b e (mkH (hs l s d tl) I J) := by
  obtain ⟨v, I1, J1, I2, J2, e1, e2, h2, f2⟩ := op25 (F := F) (l := l) (s := s) (d := d) (tl := tl) hi.1 hF a b e
  exact nxt (o := 25) (v := .int v) (v' := .int v) (by rw [if_neg (show ¬ lty 25 = true by decide)]; exact ⟨⟨v, rfl⟩, ⟨v, rfl⟩⟩) (fun _ => rfl) (⟨0, 0, c131 (d := 30) (by decide) F 0 a b e _ _ _ (hs_lt (by decide)) e1⟩) ⟨0, 0, c205 (d := 30) (by decide) F 26 a b e _ _ _ (hs_lt (by decide)) e2⟩ (inv_x hi h2 f2)
theorem nx26 (hi : inv l s d tl n T els x N tx fl I J) (hF : 9000 ≤ F) (a b e : Int32) : NX (kpE n (gA T) els) 26 a b e (mkH (hs l s d tl) I J) := by
  have ll := lay_len hi.2.2.2.1
  obtain ⟨v, v', d2, tl2, I1, J1, I2, J2, g0, e1, e2, h2, g1, g2, g3, g4, g5, g6⟩ := op26u (F := F) hi.1 hi.2.1 hi.2.2.1 (by omega) hi.2.2.2.2.2.2.1 hi.2.2.2.2.2.2.2 hF a b e
  exact nxt (o := 26) (v := .int v) (v' := .int v') (by rw [if_neg (show ¬ lty 26 = true by decide)]; exact ⟨⟨v, rfl⟩, ⟨v', rfl⟩⟩) (fun h => by rcases h with h | h; exact absurd h (by decide); rw [g0 h]) (a132 (d := 30) (by decide) F 0 a b e _ _ _ (hs_lt (by decide)) e1 0 0) ⟨0, 0, c206 (d := 30) (by decide) F 26 a b e _ _ _ (hs_lt (by decide)) e2⟩ (inv_d hi h2 g1 g2 g3 g4 g5 g6)
theorem nx27 (hi : inv l s d tl n T els x N tx fl I J) (hF : 9000 ≤ F) (a b e : Int32) : NX (kpE n (gA T) els) 27 a b e (mkH (hs l s d tl) I J) := by
  have ll := lay_len hi.2.2.2.1
  obtain ⟨v, v', d2, tl2, I1, J1, I2, J2, g0, e1, e2, h2, g1, g2, g3, g4, g5, g6⟩ := op27u (F := F) hi.1 hi.2.1 hi.2.2.1 (by omega) hi.2.2.2.2.2.2.1 hi.2.2.2.2.2.2.2 hF a b
  exact nxt (o := 27) (v := .int v) (v' := .int v') (by rw [if_neg (show ¬ lty 27 = true by decide)]; exact ⟨⟨v, rfl⟩, ⟨v', rfl⟩⟩) (fun h => by rcases h with h | h; exact absurd h (by decide); rw [g0 h]) (a133 (d := 30) (by decide) F 0 a b _ _ _ (hs_lt (by decide)) e1 0 0) ⟨0, 0, c207 (d := 30) (by decide) F 26 a b _ _ _ (hs_lt (by decide)) e2⟩ (inv_d hi h2 g1 g2 g3 g4 g5 g6)
theorem nx28 (hi : inv l s d tl n T els x N tx fl I J) (hF : 9000 ≤ F) (a b e : Int32) : NX (kpE n (gA T) els) 28 a b e (mkH (hs l s d tl) I J) := by
  have ll := lay_len hi.2.2.2.1
  obtain ⟨v, v', d2, tl2, I1, J1, I2, J2, g0, e1, e2, h2, g1, g2, g3, g4, g5, g6⟩ := op28u (F := F) hi.1 hi.2.1 hi.2.2.1 (by omega) hi.2.2.2.2.2.2.1 hi.2.2.2.2.2.2.2 hF a
  exact nxt (o := 28) (v := .int v) (v' := .int v') (by rw [if_neg (show ¬ lty 28 = true by decide)]; exact ⟨⟨v, rfl⟩, ⟨v', rfl⟩⟩) (fun h => by rcases h with h | h; exact absurd h (by decide); rw [g0 h]) (a134 (d := 30) (by decide) F 0 a _ _ _ (hs_lt (by decide)) e1 0 0) ⟨0, 0, c208 (d := 30) (by decide) F 26 a _ _ _ (hs_lt (by decide)) e2⟩ (inv_d hi h2 g1 g2 g3 g4 g5 g6)
/-- any call -/
theorem nx_all (hi : inv l s d tl n T els x N tx fl I J) {o : Nat} (ho : o < 29) (a b e : Int32) : NX (kpE n (gA T) els) o a b e (mkH (hs l s d tl) I J) := by
  obtain ⟨F, hF⟩ : ∃ F, 9000 ≤ F := ⟨9000, Nat.le_refl _⟩
  match o, ho with
  | 0, _ => exact nx0 (F := F) hi hF a b e
  | 1, _ => exact nx1 (F := F) hi hF a b e
  | 2, _ => exact nx2 (F := F) hi hF a b e
  | 3, _ => exact nx3 (F := F) hi hF a b e
  | 4, _ => exact nx4 (F := F) hi hF a b e
  | 5, _ => exact nx5 (F := F) hi hF a b e
  | 6, _ => exact nx6 (F := F) hi hF a b e
  | 7, _ => exact nx7 (F := F) hi hF a b e
  | 8, _ => exact nx8 (F := F) hi hF a b e
  | 9, _ => exact nx9 (F := F) hi hF a b e
  | 10, _ => exact nx10 (F := F) hi hF a b e
  | 11, _ => exact nx11 (F := F) hi hF a b e
  | 12, _ => exact nx12 (F := F) hi hF a b e
  | 13, _ => exact nx13 (F := F) hi hF a b e
  | 14, _ => exact nx14 (F := F) hi hF a b e
  | 15, _ => exact nx15 (F := F) hi hF a b e
  | 16, _ => exact nx16 (F := F) hi hF a b e
  | 17, _ => exact nx17 (F := F) hi hF a b e
  | 18, _ => exact nx18 (F := F) hi hF a b e
  | 19, _ => exact nx19 (F := F) hi hF a b e
  | 20, _ => exact nx20 (F := F) hi hF a b e
  | 21, _ => exact nx21 (F := F) hi hF a b e
  | 22, _ => exact nx22 (F := F) hi hF a b e
  | 23, _ => exact nx23 (F := F) hi hF a b e
  | 24, _ => exact nx24 (F := F) hi hF a b e
  | 25, _ => exact nx25 (F := F) hi hF a b e
  | 26, _ => exact nx26 (F := F) hi hF a b e
  | 27, _ => exact nx27 (F := F) hi hF a b e
  | 28, _ => exact nx28 (F := F) hi hF a b e
  | n + 29, h => exact absurd h (by omega)
theorem szl (I : hI) (J : hJ) : ∀ (sh : List hQ) (a : Nat), ((hM I J a sh).map knd).map (fun q => q.2.2) = sh.map szq := by
  intro sh
  induction sh with
  | nil => intro a; rfl
  | cons q r ih =>
    intro a
    rw [hM, List.map_cons, List.map_cons, List.map_cons, ih]
    congr 1
    unfold hC
    split
    · rfl
    · rfl
    · show (hF I J a 0 _).length = _
      rw [hF_len]
      rfl
theorem sz_le : ∀ (r : List hQ), (∀ q ∈ r, szq q ≤ 65536) → (r.map szq).sum ≤ 65536 * r.length := by
  intro r
  induction r with
  | nil => intro _; exact Nat.zero_le _
  | cons q r ih =>
    intro h
    have h1 := h q List.mem_cons_self
    have h2 := ih (fun z hz => h z (List.mem_cons_of_mem _ hz))
    rw [List.map_cons, List.sum_cons, List.length_cons]
    omega
theorem sms_H (sh : List hQ) (I : hI) (J : hJ) : sms (mkH sh I J) = (sh.map szq).sum := by
  unfold sms mkH
  rw [szl]
theorem hs_sum (l s d : Value) (tl : List hQ) : ∃ C, C ≤ 200000 ∧ ((hs l s d tl).map szq).sum = C + (tl.map szq).sum := by
  generalize hX : (tl.map szq).sum = X
  unfold hs
  simp only [List.map_cons, List.sum_cons, szq, hb0, hb1, hb4, hb8, hb14, hb19, hb22, hb26, List.length_cons, List.length_nil, hX]
  clear hX
  exact ⟨131659, by decide, by omega⟩
theorem sms_le (hl : lay l s d tl) : sms (mkH (hs l s d tl) I J) ≤ room_1.slots := by
  have h2 := sz_le tl hl.2.2.2.2.2.2.2
  have h3 := lay_len hl
  obtain ⟨C, hC, e⟩ := hs_sum l s d tl
  rw [sms_H, e]
  clear e
  generalize (tl.map szq).sum = X at *
  generalize tl.length = Y at *
  have h4 := rm_s
  omega
end S
/-- what is left of a script, when the start stands -/
theorem linv_of (hK : KP) (L : Nat) (xs : Nat → Int32) : LInv L xs 26 (fun _ hp c w => IV hp ∧ c = hp.length ∧ w = sms hp) := by
  refine ⟨fun t hp c w h => ?_, fun t hp c w h _ => h, fun t hp c w h _ o ho _ => ?_⟩
  · obtain ⟨⟨l, s, d, tl, n, T, els, x, N, tx, fl, I, J, e, hi⟩, e1, e2⟩ := h
    rw [e1, e2, e]
    refine ⟨?_, sms_le hi.2.2.2.1, hs_lt (by decide), hF I J 0 0 (hb0 l s d), ?_⟩
    · have := lay_len hi.2.2.2.1
      have := rm_c
      rw [mkH_len, hs_len]
      omega
    · rw [mkH_get, q0]
      rfl
  · obtain ⟨⟨l, s, d, tl, n, T, els, x, N, tx, fl, I, J, e, hi⟩, e1, e2⟩ := h
    obtain ⟨v, v', hp2, c', w', h1, hv, h2, h3, h4⟩ := nx_all hi ho (xs (4 * t + 1)) (xs (4 * t + 2)) (xs (4 * t + 3))
    rw [← e] at h1 h2 h3
    obtain ⟨f, g, hp1, c1, w1, c2, w2, gs, k1, k2, k3, k4, k5, k6⟩ := h1
    have hvv := hv (Or.inr (fun _ y _ h8 => kpm_le (hK n T hi.1.1 hi.1.2.1.1.2.1 hi.1.2.1.1.2.2.1) h8))
    rw [← hvv] at k1 k4
    have kt : if lty o = true then ∃ x, v = .long x else ∃ x, v = .int x := by
      by_cases hl : lty o = true
      · rw [if_pos hl] at k1 ⊢
        exact k1.1
      · rw [if_neg hl] at k1 ⊢
        exact k1.1
    exact ⟨hp2, c', w', ⟨v, f, g, hp1, c1, w1, c2, w2, gs, kt, k2, k3, k4, k5, k6⟩, h4, by rw [e1]; exact h2, by rw [e2]; exact h3⟩
