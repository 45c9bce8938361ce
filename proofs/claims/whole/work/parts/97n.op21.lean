/-! Calls of both: growth, whole. -/
/-- a call that may make a cache of sz cells, and writes into that one alone -/
def cfm (l l' : Value) (sz : Nat) (tl tl' : List hQ) (I I' : hI) (J J' : hJ) : Prop := ((l' = l ∧ tl' = tl) ∨ (l = .null ∧ l' = .ref (tl.length + 54) ∧ ∃ r, tl' = tl ++ r ∧ r.length = sz)) ∧ ∀ c : Nat, 45 ≤ c → c < tl.length + 54 → (∀ b : Nat, l = .ref b → c < b ∨ b + sz ≤ c) → I' c = I c ∧ J' c = J c
/-- what Layers knows, where it is -/
def lyK (n : Nat) (A : Nat → Nat → Int) (l : Value) (I : hI) : Prop := ∀ b : Nat, l = .ref b → sfb (b + 4) 4096 I ∧ gch n A b I
theorem out_n {m : Nat} (hm : m < 2 ^ 31) {a : Int32} (h : ∀ j, j < m + 1 → a ≠ nI j) (hm2 : m + 1 < 2 ^ 31) (h0 : ¬ a < 0) : ¬ mc2 .le a (nI m) = true := by
  have h1 := ge_of hm2 h0 h
  unfold mc2
  dsimp only
  rw [decide_eq_true_eq, Int32.le_iff_toInt_le, nI_toInt hm]
  rw [Int32.le_iff_toInt_le, nI_toInt hm2] at h1
  omega
section S
variable {l s d : Value} {tl : List hQ} {F : Nat} {I : hI} {J : hJ} {n : Nat} {T : tT} {els : List (List Nat)} {x : List Nat} {N : Nat} {tx : Nat → Nat} {fl : Int32}
theorem str_g {I' : hI} {J' : hJ} (h : str n T els x N tx fl I) (hg : glf I I' J J') : str n T els x N tx fl I' := by
  obtain ⟨⟨y, rfl⟩, hw⟩ := hg
  refine str_r h (J := J) (J' := J') ⟨fun c a1 _ _ _ _ _ _ => upI_ne a1, fun f a1 a2 a3 => by rw [upI_at, if_neg a3], fun c a1 a2 a3 _ _ _ => hw c a1 a2 a3⟩ (km_fr h.2.2.1 (by rw [upI_at, if_neg (by decide)]) (upI_ne (by decide)) (upI_ne (by decide)))
/-- a call that Layers answers, over a Layers that stands -/
theorem lyop {α : Type} {b : Nat} (h : st n T els x N tx fl I J) (b54 : 54 ≤ b) (hS : lyS (hs l s d tl) b) (ec er : List mE → Option (α × List mE)) (P : α → Prop) (hun : ∀ v v', P v → P v' → v = v') (hc : ∃ v I' J', ec (mkH (hs l s d tl) I J) = some (v, (mkH (hs l s d tl) I' J')) ∧ P v ∧ gch n (gA T) b I' ∧ sfb (b + 4) 4096 I' ∧ lyh b I I' J J') (hr : ∀ (I1 : hI) (J1 : hJ), mo_n n (gA T) I1 → ∃ v I' J', er (mkH (hs l s d tl) I1 J1) = some (v, (mkH (hs l s d tl) I' J')) ∧ P v ∧ glf I1 I' J1 J') : ∃ v I1 J1 I2 J2, ec (mkH (hs l s d tl) I J) = some (v, (mkH (hs l s d tl) I1 J1)) ∧ er (mkH (hs l s d tl) I1 J1) = some (v, (mkH (hs l s d tl) I2 J2)) ∧ st n T els x N tx fl I2 J2 ∧ (sfb (b + 4) 4096 I2 ∧ gch n (gA T) b I2) ∧ (∀ c : Nat, 45 ≤ c → c < b ∨ b + 9 ≤ c → I2 c = I c ∧ J2 c = J c) ∧ I2 26 30 = I 26 30 ∧ I2 26 31 = I 26 31 := by
  obtain ⟨hT, hcl, hrf⟩ := h
  obtain ⟨v, I1, J1, e1, p1, g1, s1, f1⟩ := hc
  have r1 := str_f hrf (I' := I1) (fun c a1 a2 => f1.1 c (by omega) (by omega) (by omega) (by omega))
  obtain ⟨v', I2, J2, e2, p2, g2⟩ := hr I1 J1 r1.1
  cases hun _ _ p1 p2
  have i2 : ∀ c, c ≠ 26 → I2 c = I1 c := fun c hc => by
    obtain ⟨⟨y, rfl⟩, _⟩ := g2
    exact upI_ne hc
  have j2 : ∀ c, c ≠ 32 → c ≠ 37 → c ≠ 38 → J2 c = J1 c := g2.2
  have i26 : ∀ k, k ≠ 27 → I2 26 k = I 26 k := fun k hk => by
    obtain ⟨⟨y, rfl⟩, _⟩ := g2
    rw [upI_at, if_neg hk, f1.1 26 (by omega) (by omega) (by omega) (by omega)]
  refine ⟨v, I1, J1, I2, J2, e1, e2, ⟨hT, stc_r hcl (fun c hc => ⟨?_, ?_⟩), str_g r1 g2⟩, ⟨sfb_I s1 (i2 _ (by omega)) (i2 _ (by omega)) (i2 _ (by omega)), ?_⟩, fun c a1 a2 => ⟨?_, ?_⟩, i26 30 (by decide), i26 31 (by decide)⟩
  · rw [i2 c (by omega)]
    exact f1.1 c (by omega) (by omega) (by omega) (by omega)
  · rw [j2 c (by omega) (by omega) (by omega)]
    exact f1.2 c (by omega) (by omega)
  · unfold gch gdn at *
    rw [i2 b (by omega), i2 (b + 3) (by omega)]
    exact g1
  · rw [i2 c (by omega)]
    exact f1.1 c (by omega) (by omega) (by omega) (by omega)
  · rw [j2 c (by omega) (by omega) (by omega)]
    exact f1.2 c (by omega) (by omega)
/-- the same, where Layers is made first if it is not there -/
theorem lyoq {α : Type} (h : st n T els x N tx fl I J) (hS : caS l s d tl) (ho : okh (hs l s d tl)) (hl : tl.length ≤ 100) (hk : lyK n (gA T) l I) (ec : Nat → List mE → Option (α × List mE)) (er : List mE → Option (α × List mE)) (P : α → Prop) (hun : ∀ v v', P v → P v' → v = v') (hc : ∀ (l : Value) (tl : List hQ) (I : hI) (J : hJ) (b : Nat), lyS (hs l s d tl) b → cl_n n (gA T) I → sfb (b + 4) 4096 I → gch n (gA T) b I → ∃ v I' J', ec b (mkH (hs l s d tl) I J) = some (v, mkH (hs l s d tl) I' J') ∧ P v ∧ gch n (gA T) b I' ∧ sfb (b + 4) 4096 I' ∧ lyh b I I' J J') (hr : ∀ (l : Value) (tl : List hQ) (I1 : hI) (J1 : hJ), mo_n n (gA T) I1 → ∃ v I' J', er (mkH (hs l s d tl) I1 J1) = some (v, mkH (hs l s d tl) I' J') ∧ P v ∧ glf I1 I' J1 J') : ∃ v l' tl' I1 J1 I2 J2, ((e128 F 0 (mkH (hs l s d tl) I J)).bind fun q => if q.1 < q.2.length then (rcv 2 q.2 q.1).bind fun _ => ec q.1 q.2 else none) = some (v, mkH (hs l' s d tl') I1 J1) ∧ er (mkH (hs l' s d tl') I1 J1) = some (v, mkH (hs l' s d tl') I2 J2) ∧ st n T els x N tx fl I2 J2 ∧ caS l' s d tl' ∧ okh (hs l' s d tl') ∧ cfm l l' 9 tl tl' I I2 J J2 ∧ lyK n (gA T) l' I2 ∧ I2 26 30 = I 26 30 ∧ I2 26 31 = I 26 31 := by
  rcases id hS.1 with rfl | ⟨b, rfl, hb54, hly⟩
  · have hly : lyS (hs (.ref (tl.length + 54)) s d (tl ++ lyc (tl.length + 54))) (tl.length + 54) := lyS_new rfl
    have lo : ∀ c, c < tl.length + 54 → lyI (wzI I (tl.length + 54)) (tl.length + 54) c = I c ∧ lyJ (wzJ J (tl.length + 54)) (tl.length + 54) c = J c := fun c hc => ⟨lyI_lo hc, lyJ_lo hc⟩
    have fI := lyI_f (I := wzI I (tl.length + 54)) (b := tl.length + 54)
    have st0 : st n T els x N tx fl (lyI (wzI I (tl.length + 54)) (tl.length + 54)) (lyJ (wzJ J (tl.length + 54)) (tl.length + 54)) := ⟨h.1, stc_r h.2.1 (fun c hc => lo c (by omega)), str_f h.2.2 (fun c _ a2 => (lo c (by omega)).1)⟩
    obtain ⟨v, I1, J1, I2, J2, e1, e2, r3, r4, r5, r6, r7⟩ := lyop st0 (by omega) hly (ec (tl.length + 54)) er P hun (hc _ _ _ _ _ hly st0.2.1.1 fI.1 (Or.inl fI.2)) (hr _ _)
    refine ⟨v, _, _, I1, J1, I2, J2, ?_, e2, r3, caS_ly hS, okh_ly ho hl, ⟨Or.inr ⟨rfl, rfl, _, rfl, rfl⟩, fun c a1 a2 _ => ?_⟩, fun b' e => ?_, ?_, ?_⟩
    · rw [nl_n ho hl, Option.bind_some]
      show (if tl.length + 54 < (mkH _ _ _).length then _ else _) = _
      rw [mkH_len, if_pos (List.getElem?_eq_some_iff.mp hly.1).1, lyr hly, Option.bind_some, e1]
    · obtain ⟨x1, x2⟩ := r5 c a1 (Or.inl a2)
      exact ⟨x1.trans (lo c a2).1, x2.trans (lo c a2).2⟩
    · cases e
      exact r4
    · rw [r6, (lo 26 (by omega)).1]
    · rw [r7, (lo 26 (by omega)).1]
  · obtain ⟨v, I1, J1, I2, J2, e1, e2, r3, r4, r5, r6, r7⟩ := lyop h hb54 hly (ec b) er P hun (hc _ _ _ _ _ hly h.2.1.1 (hk b rfl).1 (hk b rfl).2) (hr _ _)
    refine ⟨v, _, _, I1, J1, I2, J2, ?_, e2, r3, hS, ho, ⟨Or.inl ⟨rfl, rfl⟩, fun c a1 a2 a3 => r5 c a1 (a3 b rfl)⟩, fun b' e => ?_, r6, r7⟩
    · rw [nl_r hly, Option.bind_some]
      show (if b < (mkH _ _ _).length then _ else _) = _
      rw [mkH_len, if_pos (List.getElem?_eq_some_iff.mp hly.1).1, lyr hly, Option.bind_some, e1]
    · cases e
      exact r4
theorem cfm_s : cfm l l 9 tl tl I I J J := ⟨Or.inl ⟨rfl, rfl⟩, fun _ _ _ _ => ⟨rfl, rfl⟩⟩
theorem out_r {a : Int32} {m : Nat} (hm : m + 1 < 2 ^ 30) (h : ∀ j, j < m + 1 → a ≠ nI j) (hp : List mE) : e137 F a.toInt64 0 ((nI (m + 1) - nI 1).toInt64) hp = some (nI 0, hp) := by
  rcases bw_n (F := F) a (m := m + 1) hm hp with ⟨j, h1, h2, _⟩ | ⟨_, h1⟩
  · exact absurd h2 (h j h1)
  · exact h1
/-- growth -/
theorem op21 (h : st n T els x N tx fl I J) (hS : caS l s d tl) (ho : okh (hs l s d tl)) (hl : tl.length ≤ 100) (hk : lyK n (gA T) l I) (hF : 9000 ≤ F) (a : Int32) : ∃ v l' tl' I1 J1 I2 J2, e126 F 0 a (mkH (hs l s d tl) I J) = some (v, mkH (hs l' s d tl') I1 J1) ∧ e192 F 26 a (mkH (hs l' s d tl') I1 J1) = some (v, mkH (hs l' s d tl') I2 J2) ∧ st n T els x N tx fl I2 J2 ∧ caS l' s d tl' ∧ okh (hs l' s d tl') ∧ cfm l l' 9 tl tl' I I2 J J2 ∧ lyK n (gA T) l' I2 ∧ I2 26 30 = I 26 30 ∧ I2 26 31 = I 26 31 := by
  rcases mi_c 21 a with ⟨K, hK, rfl⟩ | ha
  · obtain ⟨v, l', tl', I1, J1, I2, J2, e1, e2, r⟩ := lyoq (F := F) h hS ho hl hk (fun b hp => e23 F b (nI K) hp) (fun hp => e192 F 26 (nI K) hp) (fun v => v = gwv n (gA T) K) (fun v v' a b => a.trans b.symm) (fun l tl I J b a1 a2 a3 a4 => by
      obtain ⟨I', J', e, r⟩ := col_e (F := F) (J := J) a1 a2 a3 hF (show K ≤ 20 by omega) a4
      exact ⟨_, I', J', e, rfl, r⟩) (fun l tl I1 J1 hM => by
      obtain ⟨I', J', e, r⟩ := gwr_e (l := l) (s := s) (d := d) (tl := tl) (F := F) (J := J1) hM hF (show K ≤ 20 by omega)
      exact ⟨_, I', J', e, rfl, r⟩)
    refine ⟨v, l', tl', I1, J1, I2, J2, ?_, e2, r⟩
    rw [← e1]
    show m126_0 F 0 (nI K) _ = _
    unfold m126_0
    rw [if_neg (show ¬ mc1 .lt (nI K) = true by rw [d_lt (by omega)]; exact id), if_pos (show mc2 .le (nI K) 20 = true by rw [n_20, c_le (by omega) (by omega)]; omega), rc0, Option.bind_some]
    congr 1
    funext q
    split
    · congr 1
      funext _
      cases e23 F q.1 (nI K) q.2 <;> rfl
    · rfl
  · refine ⟨-1002, l, tl, I, J, I, J, ?_, ?_, h, hS, ho, cfm_s, hk, rfl, rfl⟩
    · show m126_0 F 0 a _ = _
      unfold m126_0 m126_10
      by_cases h0 : a < 0
      · rw [if_pos (show mc1 .lt a = true by unfold mc1; exact decide_eq_true h0)]
      · rw [if_neg (show ¬ mc1 .lt a = true by unfold mc1; rw [decide_eq_true_eq]; exact h0), n_20, if_neg (out_n (by omega) ha (by omega) h0)]
    · show m192_0 F 26 a _ = _
      unfold m192_0
      have e := out_r (F := F) (m := 20) (by omega) ha (mkH (hs l s d tl) I J)
      have e : e137 F a.toInt64 0 20 (mkH (hs l s d tl) I J) = some (nI 0, (mkH (hs l s d tl) I J)) := e
      rw [e, Option.bind_some, if_neg (show ¬ mc1 .ne (nI 0) = true by decide)]
/-- whole -/
theorem op22 (h : st n T els x N tx fl I J) (hS : caS l s d tl) (ho : okh (hs l s d tl)) (hl : tl.length ≤ 100) (hk : lyK n (gA T) l I) (hF : 9000 ≤ F) (a : Int32) : ∃ v l' tl' I1 J1 I2 J2, e127 F 0 a (mkH (hs l s d tl) I J) = some (v, mkH (hs l' s d tl') I1 J1) ∧ e193 F 26 a (mkH (hs l' s d tl') I1 J1) = some (v, mkH (hs l' s d tl') I2 J2) ∧ st n T els x N tx fl I2 J2 ∧ caS l' s d tl' ∧ okh (hs l' s d tl') ∧ cfm l l' 9 tl tl' I I2 J J2 ∧ lyK n (gA T) l' I2 ∧ I2 26 30 = I 26 30 ∧ I2 26 31 = I 26 31 := by
  have hok := h.2.1.1.1
  rcases mi_c 2 a with ⟨K, hK, rfl⟩ | ha
  · obtain ⟨v, l', tl', I1, J1, I2, J2, e1, e2, r⟩ := lyoq (F := F) h hS ho hl hk (fun b hp => if K = 0 then e24 F b hp else e25 F b hp) (fun hp => e193 F 26 (nI K) hp) (fun v => whq n (gA T) K v) (fun v v' a b => whq_un hok a b) (fun l tl I J b a1 a2 a3 a4 => by
      by_cases h0 : K = 0
      · obtain ⟨v, I', J', e, r⟩ := wha_e (F := F) (J := J) a1 a2 a3 hF a4
        refine ⟨v, I', J', ?_, by rw [h0]; exact r.1, r.2⟩
        rw [if_pos h0]
        exact e
      · obtain ⟨v, I', J', e, r⟩ := whl_e (F := F) (J := J) a1 a2 a3 hF a4
        refine ⟨v, I', J', ?_, by rw [show K = 1 by omega]; exact r.1, r.2⟩
        rw [if_neg h0]
        exact e) (fun l tl I1 J1 hM => whr_e (l := l) (s := s) (d := d) (tl := tl) (F := F) (J := J1) hM hF (show K ≤ 1 by omega))
    refine ⟨v, l', tl', I1, J1, I2, J2, ?_, e2, r⟩
    rw [← e1]
    show m127_0 F 0 (nI K) _ = _
    unfold m127_0 m127_34
    rw [if_neg (show ¬ mc1 .lt (nI K) = true by rw [d_lt (by omega)]; exact id), if_pos (show mc2 .le (nI K) 1 = true by rw [n_1, c_le (by omega) (by omega)]; omega)]
    by_cases h0 : K = 0
    · rw [if_neg (show ¬ mc1 .ne (nI K) = true by rw [d_ne (by omega)]; omega), rc0, Option.bind_some]
      congr 1
      funext q
      split
      · congr 1
        funext _
        cases e24 F q.1 q.2 <;> rfl
      · rfl
    · rw [if_pos (show mc1 .ne (nI K) = true by rw [d_ne (by omega)]; exact h0), rc0, Option.bind_some]
      congr 1
      funext q
      split
      · congr 1
        funext _
        cases e25 F q.1 q.2 <;> rfl
      · rfl
  · refine ⟨-1002, l, tl, I, J, I, J, ?_, ?_, h, hS, ho, cfm_s, hk, rfl, rfl⟩
    · show m127_0 F 0 a _ = _
      unfold m127_0 m127_9
      by_cases h0 : a < 0
      · rw [if_pos (show mc1 .lt a = true by unfold mc1; exact decide_eq_true h0)]
      · rw [if_neg (show ¬ mc1 .lt a = true by unfold mc1; rw [decide_eq_true_eq]; exact h0), n_1, if_neg (out_n (by omega) ha (by omega) h0)]
    · show m193_0 F 26 a _ = _
      unfold m193_0
      have e := out_r (F := F) (m := 1) (by omega) ha (mkH (hs l s d tl) I J)
      have e : e137 F a.toInt64 0 1 (mkH (hs l s d tl) I J) = some (nI 0, (mkH (hs l s d tl) I J)) := e
      rw [e, Option.bind_some, if_neg (show ¬ mc1 .ne (nI 0) = true by decide)]
end S
