/-! The class: needIdeal, and the three questions about P. -/
/-- what Ideal knows, where it is -/
def idK (n : Nat) (A : Nat → Nat → Int) (Q : List (List Nat) → Nat → (Nat → Int64) → Prop) (els : List (List Nat)) (v : Value) (I : hI) (J : hJ) : Prop := ∀ b : Nat, v = .ref b → idD n A Q els b I J
section S
variable {l s d : Value} {tl : List hQ} {F : Nat} {I : hI} {J : hJ} {n : Nat} {A : Nat → Nat → Int} {y : List Nat} {els : List (List Nat)} {Q : List (List Nat) → Nat → (Nat → Int64) → Prop}
theorem gfr_d {b : Nat} (h : idS (hs l s (.ref b) tl) b) : gfr 10 10 (mkH (hs l s (.ref b) tl) I J) 0 = some b := gfr_H q0 rfl h.1
theorem idS_lt {b : Nat} (h : idS (hs l s d tl) b) : b < (mkH (hs l s d tl) I J).length := by
  rw [mkH_len]
  exact (List.getElem?_eq_some_iff.mp h.1).1
/-- needIdeal, and what it made is put under w -/
def nidP (F : Nat) (w : Int32) (b : Nat) (H H' : List mE) : Prop := ∃ H0, e135 F 0 H = some (b, H0) ∧ b < H0.length ∧ rcv 0 H0 b = some () ∧ e5 F b w H0 = some (b, H')
/-- needIdeal -/
theorem nid_e (hg : cl_n n A I) (hkp : kp n A els I J) (hS : caS l s d tl) (ho : okh (hs l s d tl)) (hl : tl.length ≤ 100) (hk : idK n A Q els d I J) (hF : 9000 ≤ F) {w : Nat} (hy : els[w]? = some y) (h8 : y.length ≤ 8) (hfq : ∀ W, bqA n A y W → filQ n A W (Q W)) : ∃ (b : Nat) (tl' : List hQ) (W : List (List Nat)) (top : Nat) (x : List Nat) (I' : hI) (J' : hJ), nidP F (nI w) b (mkH (hs l s d tl) I J) (mkH (hs l s (.ref b) tl') I' J') ∧ 54 ≤ b ∧ idS (hs l s (.ref b) tl') b ∧ caS l s (.ref b) tl' ∧ okh (hs l s (.ref b) tl') ∧ cfm d (.ref b) 10 tl tl' I I' J J' ∧ (∀ c, c < 54 → I' c = I c ∧ J' c = J c) ∧ idW n A Q b w y W top x I' J' := by
  have m26 : ∀ (b : Nat) (tl' : List hQ) (I0 : hI) (J0 : hJ), idS (hs l s (.ref b) tl') b → m135_26 F 0 (mkH (hs l s (.ref b) tl') I0 J0) = some (b, mkH (hs l s (.ref b) tl') I0 J0) := by
    intro b tl' I0 J0 hid
    unfold m135_26
    rw [gfr_d hid, Option.bind_some]
  rcases id hS.2.2 with rfl | ⟨b, rfl, hb54, hid⟩
  · have hid : idS (hs l s (.ref (tl.length + 54)) (tl ++ idc (tl.length + 54))) (tl.length + 54) := idS_new rfl
    have lo : ∀ c, c < tl.length + 54 → idI (wzI I (tl.length + 54)) (tl.length + 54) c = I c ∧ idJ (wzJ J (tl.length + 54)) (tl.length + 54) c = J c := fun c hc => ⟨idI_lo hc, idJ_lo hc⟩
    have fI := idI_f (I := wzI I (tl.length + 54)) (b := tl.length + 54)
    have g0 : cl_n n A (idI (wzI I (tl.length + 54)) (tl.length + 54)) := cl_fr hg (lo 1 (by omega)).1 (lo 3 (by omega)).1
    have k0 : kp n A els (idI (wzI I (tl.length + 54)) (tl.length + 54)) (idJ (wzJ J (tl.length + 54)) (tl.length + 54)) := kp_fr hkp (lo 8 (by omega)).1 (lo 9 (by omega)).1 (lo 10 (by omega)).1 (lo 11 (by omega)).2 (lo 12 (by omega)).2
    obtain ⟨W, top, x, I', J', e1, r1, r2⟩ := prep_e (F := F) hid (by omega) g0 k0 ⟨fI.1, Or.inl fI.2⟩ hF hy h8 hfq
    refine ⟨tl.length + 54, tl ++ idc (tl.length + 54), W, top, x, I', J', ?_, by omega, hid, caS_id hS, okh_id ho hl, ⟨Or.inr ⟨rfl, rfl, _, rfl, rfl⟩, fun c a1 a2 _ => ?_⟩, fun c hc => ?_, r2⟩
    · refine ⟨_, ?_, idS_lt hid, idr hid, e1⟩
      show m135_0 F 0 _ = _
      rw [ni_n ho hl]
      exact m26 _ _ _ _ hid
    · exact ⟨(r1 c (by omega)).1.trans (lo c a2).1, (r1 c (by omega)).2.trans (lo c a2).2⟩
    · exact ⟨(r1 c (by omega)).1.trans (lo c (by omega)).1, (r1 c (by omega)).2.trans (lo c (by omega)).2⟩
  · obtain ⟨W, top, x, I', J', e1, r1, r2⟩ := prep_e (F := F) hid hb54 hg hkp (hk b rfl) hF hy h8 hfq
    refine ⟨b, tl, W, top, x, I', J', ?_, hb54, hid, hS, ho, ⟨Or.inl ⟨rfl, rfl⟩, fun c a1 a2 a3 => r1 c (a3 b rfl)⟩, fun c hc => r1 c (by omega), r2⟩
    refine ⟨_, ?_, idS_lt hid, idr hid, e1⟩
    show m135_0 F 0 _ = _
    rw [ni_r]
    exact m26 _ _ _ _ hid
/-- what the class answers for the coefficient k of P(els[i], els[w]) -/
def pAns (n : Nat) (A : Nat → Nat → Int) (Q : List (List Nat) → Nat → (Nat → Int64) → Prop) (u y : List Nat) (k v : Int32) : Prop := ∃ (W : List (List Nat)) (top : Nat) (x : List Nat) (R : Nat → Int64), bqA n A y W ∧ W[top]? = some x ∧ cx_g n A x = cx_g n A y ∧ Q W top R ∧ ((∃ (m : Nat) (z : List Nat), W[m]? = some z ∧ cx_g n A z = cx_g n A u ∧ v = cofV (R m) k) ∨ ((∀ (m : Nat) (z : List Nat), W[m]? = some z → cx_g n A z ≠ cx_g n A u) ∧ v = 0))
theorem pnum_e (hg : cl_n n A I) (hkp : kp n A els I J) (hS : caS l s d tl) (ho : okh (hs l s d tl)) (hl : tl.length ≤ 100) (hk : idK n A Q els d I J) (hF : 9000 ≤ F) {i w : Nat} {u : List Nat} (hu : els[i]? = some u) (hy : els[w]? = some y) (h8 : y.length ≤ 8) (hfq : ∀ W, bqA n A y W → filQ n A W (Q W)) (k : Int32) : ∃ (v : Int32) (b : Nat) (tl' : List hQ) (I0 I' : hI) (J0 J' : hJ), nidP F (nI w) b (mkH (hs l s d tl) I J) (mkH (hs l s (.ref b) tl') I0 J0) ∧ b < (mkH (hs l s (.ref b) tl') I0 J0).length ∧ rcv 0 (mkH (hs l s (.ref b) tl') I0 J0) b = some () ∧ e2 F b (nI i) k (mkH (hs l s (.ref b) tl') I0 J0) = some (v, mkH (hs l s (.ref b) tl') I' J') ∧ pAns n A Q u y k v ∧ caS l s (.ref b) tl' ∧ okh (hs l s (.ref b) tl') ∧ cfm d (.ref b) 10 tl tl' I I' J J' ∧ (∀ c, c < 54 → I' c = I c ∧ J' c = J c) ∧ idK n A Q els (.ref b) I' J' := by
  obtain ⟨b, tl', W, top, x, I0, J0, e1, hb54, hid, r1, r2, r3, r4, r5⟩ := nid_e (F := F) hg hkp hS ho hl hk hF hy h8 hfq
  have g0 : cl_n n A I0 := cl_fr hg (r4 1 (by omega)).1 (r4 3 (by omega)).1
  have k0 : kp n A els I0 J0 := kp_fr hkp (r4 8 (by omega)).1 (r4 9 (by omega)).1 (r4 10 (by omega)).1 (r4 11 (by omega)).2 (r4 12 (by omega)).2
  obtain ⟨v, J', e2, a1, a2⟩ := numb_e (F := F) hid hb54 g0 k0 hF hu r5 k
  have hW' : idW n A Q b w y W top x I0 J' := by
    obtain ⟨q1, q2, q3, q4, q5, q6, q7⟩ := r5
    refine ⟨q1, q2, shf_J q3 (a1 _ (by omega)), q4, q5, q6, ?_⟩
    rw [a1 (b + 3) (by omega)]
    exact q7
  refine ⟨v, b, tl', I0, I0, J0, J', e1, idS_lt hid, idr hid, e2, ⟨W, top, x, fun k => J0 (b + 3) (top * 256 + k), r5.2.1, r5.2.2.2.1, r5.2.2.2.2.1, r5.2.2.2.2.2.2, a2⟩, r1, r2, ⟨r3.1, fun c c1 c2 c3 => ?_⟩, fun c hc => ?_, fun b' e => ?_⟩
  · have hcb : c ≠ b + 1 := by
      rcases r3.1 with ⟨q1, q2⟩ | ⟨q1, q2, _⟩
      · have := c3 b q1.symm
        omega
      · cases q2
        omega
    rw [a1 c hcb]
    exact r3.2 c c1 c2 c3
  · rw [a1 c (by omega)]
    exact r4 c hc
  · cases e
    exact ⟨hW'.2.2.1.1, Or.inr ⟨w, y, W, top, x, hy, h8, hW'⟩⟩
/-- what the class answers for rough -/
def rAns (n : Nat) (A : Nat → Nat → Int) (Q : List (List Nat) → Nat → (Nat → Int64) → Prop) (y : List Nat) (v : Int32) : Prop := ∃ (W : List (List Nat)) (top : Nat) (x : List Nat) (R : Nat → Int64), bqA n A y W ∧ W[top]? = some x ∧ cx_g n A x = cx_g n A y ∧ Q W top R ∧ v = nI (((List.range W.length).filter (fun m => decide (R m ≠ 1))).length)
theorem prou_e (hg : cl_n n A I) (hkp : kp n A els I J) (hS : caS l s d tl) (ho : okh (hs l s d tl)) (hl : tl.length ≤ 100) (hk : idK n A Q els d I J) (hF : 9000 ≤ F) {w : Nat} (hy : els[w]? = some y) (h8 : y.length ≤ 8) (hfq : ∀ W, bqA n A y W → filQ n A W (Q W)) : ∃ (v : Int32) (b : Nat) (tl' : List hQ) (I' : hI) (J' : hJ), nidP F (nI w) b (mkH (hs l s d tl) I J) (mkH (hs l s (.ref b) tl') I' J') ∧ b < (mkH (hs l s (.ref b) tl') I' J').length ∧ rcv 0 (mkH (hs l s (.ref b) tl') I' J') b = some () ∧ e3 F b (mkH (hs l s (.ref b) tl') I' J') = some (v, mkH (hs l s (.ref b) tl') I' J') ∧ rAns n A Q y v ∧ caS l s (.ref b) tl' ∧ okh (hs l s (.ref b) tl') ∧ cfm d (.ref b) 10 tl tl' I I' J J' ∧ (∀ c, c < 54 → I' c = I c ∧ J' c = J c) ∧ idK n A Q els (.ref b) I' J' := by
  obtain ⟨b, tl', W, top, x, I0, J0, e1, hb54, hid, r1, r2, r3, r4, r5⟩ := nid_e (F := F) hg hkp hS ho hl hk hF hy h8 hfq
  have e2 := roug_e (F := F) hid hF r5
  refine ⟨_, b, tl', I0, J0, e1, idS_lt hid, idr hid, e2, ⟨W, top, x, fun k => J0 (b + 3) (top * 256 + k), r5.2.1, r5.2.2.2.1, r5.2.2.2.2.1, r5.2.2.2.2.2.2, rfl⟩, r1, r2, r3, r4, fun b' e => ?_⟩
  cases e
  exact ⟨r5.2.2.1.1, Or.inr ⟨w, y, W, top, x, hy, h8, r5⟩⟩
end S
