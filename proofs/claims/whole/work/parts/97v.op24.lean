/-! Calls of both: shifts. -/
/-- what Shifts knows, where it is -/
def siK (n : Nat) (A : Nat → Nat → Int) (els : List (List Nat)) (v : Value) (I : hI) : Prop := ∀ b : Nat, v = .ref b → sfb (b + 3) 512 I ∧ siC n A els b I
section S
variable {l s d : Value} {tl : List hQ} {F : Nat} {I : hI} {J : hJ} {n : Nat} {T : tT} {els : List (List Nat)} {x : List Nat} {N : Nat} {tx : Nat → Nat} {fl : Int32}
theorem str_s {I' : hI} {J' : hJ} (h : str n T els x N tx fl I) (hg : shf2 I I' J J') : str n T els x N tx fl I' := by
  refine str_r h (J := J) (J' := J') ⟨fun c a1 a2 _ _ _ a3 a4 => hg.1 c a1 a2 a3 a4, fun f a1 a2 a3 => hg.2.1 f a1, fun c a1 _ _ _ _ _ => hg.2.2 c a1⟩ (km_fr h.2.2.1 (hg.2.1 16 (by decide)) (hg.1 34 (by decide) (by decide) (by decide) (by decide)) (hg.1 35 (by decide) (by decide) (by decide) (by decide)))
theorem sio {b : Nat} (h : st n T els x N tx fl I J) (b54 : 54 ≤ b) (hS : siS (hs l s d tl) b) (hb : sfb (b + 3) 512 I) (hc : siC n (gA T) els b I) (hF : 9000 ≤ F) {w : Nat} {y : List Nat} (hy : els[w]? = some y) {k : Nat} (hk3 : k < 3) : ∃ v I1 J1 I2 J2, e70 F b (nI w) (nI k) (mkH (hs l s d tl) I J) = some (v, (mkH (hs l s d tl) I1 J1)) ∧ e197 F 26 (nI w) (nI k) (mkH (hs l s d tl) I1 J1) = some (v, (mkH (hs l s d tl) I2 J2)) ∧ st n T els x N tx fl I2 J2 ∧ (sfb (b + 3) 512 I2 ∧ siC n (gA T) els b I2) ∧ (∀ c : Nat, 45 ≤ c → c < b ∨ b + 8 ≤ c → I2 c = I c ∧ J2 c = J c) ∧ I2 26 30 = I 26 30 ∧ I2 26 31 = I 26 31 := by
  obtain ⟨hT, hcl, hrf⟩ := h
  obtain ⟨v, I1, J1, e1, p1, s1, g1, f1⟩ := tel_e (F := F) hS b54 hcl.1 hcl.2.2.1 hb hc hF hy hk3
  have r1 := str_f hrf (I' := I1) (fun c a1 a2 => f1.1 c (by omega) (by omega) (by omega) (by omega) (by omega))
  obtain ⟨v', I2, J2, e2, p2, g2⟩ := shr_e (l := l) (s := s) (d := d) (tl := tl) (F := F) (J := J1) r1.1 r1.2.2.1 hF hy hk3
  cases shV_un p1 p2
  have i2 : ∀ c, c ≠ 26 → c ≠ 33 → c ≠ 43 → c ≠ 44 → I2 c = I1 c := g2.1
  have j2 : ∀ c, c ≠ 32 → J2 c = J1 c := g2.2.2
  have i26 : ∀ k, k ≠ 15 → I2 26 k = I 26 k := fun k hk => by rw [g2.2.1 k hk, f1.1 26 (by omega) (by omega) (by omega) (by omega) (by omega)]
  refine ⟨v, I1, J1, I2, J2, e1, e2, ⟨hT, stc_r hcl (fun c hc => ⟨?_, ?_⟩), str_s r1 g2⟩, ⟨sfb_I s1 (i2 _ (by omega) (by omega) (by omega) (by omega)) (i2 _ (by omega) (by omega) (by omega) (by omega)) (i2 _ (by omega) (by omega) (by omega) (by omega)), ?_⟩, fun c a1 a2 => ⟨?_, ?_⟩, i26 30 (by decide), i26 31 (by decide)⟩
  · rw [i2 c (by omega) (by omega) (by omega) (by omega)]
    exact f1.1 c (by omega) (by omega) (by omega) (by omega) (by omega)
  · rw [j2 c (by omega)]
    exact f1.2 c (by omega) (by omega) (by omega)
  · unfold siC siV at *
    rw [i2 b (by omega) (by omega) (by omega) (by omega)]
    exact g1
  · rw [i2 c (by omega) (by omega) (by omega) (by omega)]
    exact f1.1 c (by omega) (by omega) (by omega) (by omega) (by omega)
  · rw [j2 c (by omega)]
    exact f1.2 c (by omega) (by omega) (by omega)
/-- shifts -/
theorem op24 (h : st n T els x N tx fl I J) (hS : caS l s d tl) (ho : okh (hs l s d tl)) (hl : tl.length ≤ 100) (hk : siK n (gA T) els s I) (hF : 9000 ≤ F) (a c : Int32) : ∃ v s' tl' I1 J1 I2 J2, e130 F 0 a c (mkH (hs l s d tl) I J) = some (v, mkH (hs l s' d tl') I1 J1) ∧ e197 F 26 a c (mkH (hs l s' d tl') I1 J1) = some (v, mkH (hs l s' d tl') I2 J2) ∧ st n T els x N tx fl I2 J2 ∧ caS l s' d tl' ∧ okh (hs l s' d tl') ∧ cfm s s' 8 tl tl' I I2 J J2 ∧ siK n (gA T) els s' I2 ∧ I2 26 30 = I 26 30 ∧ I2 26 31 = I 26 31 := by
  have hkp := h.2.1.2.2.1
  have hkm := h.2.2.2.2.1
  have h40 := hkp.2.1
  have same : cfm s s 8 tl tl I I J J := ⟨Or.inl ⟨rfl, rfl⟩, fun _ _ _ _ => ⟨rfl, rfl⟩⟩
  rcases el_c els a with ⟨w, y, hy, rfl⟩ | ha
  · have ec : e130 F 0 (nI w) c (mkH (hs l s d tl) I J) = if mc1 .lt c = true then m130_24 F (mkH (hs l s d tl) I J) else if mc2 .le c 2 = true then (gfq 10 9 (mkH (hs l s d tl) I J) 0).bind fun x7 => if x7 = none then (nwO 7 (mkH (hs l s d tl) I J)).bind fun hp9 => (gfr 10 0 hp9 0).bind fun x11 => (gfr 10 2 hp9 0).bind fun x12 => (e68 F (mkH (hs l s d tl) I J).length x11 x12 hp9).bind fun q13 => (pfv 10 9 q13.2 0 (.ref (mkH (hs l s d tl) I J).length)).bind fun hp14 => m130_54 F 0 (nI w) c hp14 else m130_54 F 0 (nI w) c (mkH (hs l s d tl) I J) else m130_24 F (mkH (hs l s d tl) I J) := by
      show m130_0 F 0 _ _ _ = _
      unfold m130_0
      rw [gr0_2, Option.bind_some, rc8, Option.bind_some, eh1 hkp hy, Option.bind_some, if_pos (show mc1 .ne (nI 1) = true by decide)]
    rcases mi_c 3 c with ⟨k, hk3, rfl⟩ | hc
    · rw [ec, if_neg (show ¬ mc1 .lt (nI k) = true by rw [d_lt (by omega)]; exact id), if_pos (show mc2 .le (nI k) 2 = true by rw [n_2, c_le (by omega) (by omega)]; omega)]
      rcases id hS.2.1 with rfl | ⟨b, rfl, hb54, hsi⟩
      · have hsi : siS (hs l (.ref (tl.length + 54)) d (tl ++ sic (tl.length + 54))) (tl.length + 54) := siS_new rfl
        have lo : ∀ c, c < tl.length + 54 → siI (wzI I (tl.length + 54)) (tl.length + 54) c = I c ∧ siJ (wzJ J (tl.length + 54)) (tl.length + 54) c = J c := fun c hc => ⟨siI_lo hc, siJ_lo hc⟩
        have fI := siI_f (I := wzI I (tl.length + 54)) (b := tl.length + 54)
        have st0 : st n T els x N tx fl (siI (wzI I (tl.length + 54)) (tl.length + 54)) (siJ (wzJ J (tl.length + 54)) (tl.length + 54)) := ⟨h.1, stc_r h.2.1 (fun c hc => lo c (by omega)), str_f h.2.2 (fun c _ a2 => (lo c (by omega)).1)⟩
        obtain ⟨v, I1, J1, I2, J2, e1, e2, r3, r4, r5, r6, r7⟩ := sio (F := F) st0 (by omega) hsi fI.1 (Or.inl fI.2) hF hy hk3
        refine ⟨v, _, _, I1, J1, I2, J2, ?_, e2, r3, caS_si hS, okh_si ho hl, ⟨Or.inr ⟨rfl, rfl, _, rfl, rfl⟩, fun c a1 a2 _ => ?_⟩, fun b' e => ?_, ?_, ?_⟩
        · rw [gfq_N q0 rfl, Option.bind_some, if_pos rfl, nwO_H md7 ho, Option.bind_some, hs_app, gr0_0, Option.bind_some, gr0_2, Option.bind_some, mkH_len, ← hs_app, sin_e ho (by rw [hs_len]; omega) (by rw [hs_len]; omega), Option.bind_some, hs_len, hs_app]
          have e : ∀ (I : hI) (J : hJ), pfv 10 9 (mkH (hs l .null d (tl ++ sic (tl.length + 54))) I J) 0 (.ref (tl.length + 54)) = some (mkH (hs l (.ref (tl.length + 54)) d (tl ++ sic (tl.length + 54))) I J) := fun I J => pfr_H q0 (show 9 < 11 by decide)
          rw [e, Option.bind_some]
          unfold m130_54
          rw [gfr_H q0 rfl hsi.1, Option.bind_some, sir hsi, Option.bind_some, e1, Option.bind_some]
        · obtain ⟨x1, x2⟩ := r5 c a1 (Or.inl a2)
          exact ⟨x1.trans (lo c a2).1, x2.trans (lo c a2).2⟩
        · cases e
          exact r4
        · rw [r6, (lo 26 (by omega)).1]
        · rw [r7, (lo 26 (by omega)).1]
      · obtain ⟨v, I1, J1, I2, J2, e1, e2, r3, r4, r5, r6, r7⟩ := sio (F := F) h hb54 hsi (hk b rfl).1 (hk b rfl).2 hF hy hk3
        refine ⟨v, _, _, I1, J1, I2, J2, ?_, e2, r3, hS, ho, ⟨Or.inl ⟨rfl, rfl⟩, fun c a1 a2 a3 => r5 c a1 (a3 b rfl)⟩, fun b' e => ?_, r6, r7⟩
        · rw [gfq_H q0 rfl, Option.bind_some, if_neg (by simp)]
          unfold m130_54
          rw [gfr_H q0 rfl hsi.1, Option.bind_some, sir hsi, Option.bind_some, e1, Option.bind_some]
        · cases e
          exact r4
    · refine ⟨-1002, s, tl, I, J, I, J, ?_, ?_, h, hS, ho, same, hk, rfl, rfl⟩
      · rw [ec]
        unfold m130_24
        by_cases h0 : c < 0
        · rw [if_pos (show mc1 .lt c = true by unfold mc1; exact decide_eq_true h0)]
        · rw [if_neg (show ¬ mc1 .lt c = true by unfold mc1; rw [decide_eq_true_eq]; exact h0), n_2, if_neg (out_n (by omega) hc (by omega) h0)]
      · show m197_0 F 26 _ _ _ = _
        unfold m197_0
        have e := out_r (F := F) (m := 2) (by omega) hc (mkH (hs l s d tl) I J)
        have e : e137 F c.toInt64 0 2 (mkH (hs l s d tl) I J) = some (nI 0, (mkH (hs l s d tl) I J)) := e
        rw [rc26, Option.bind_some, ie1 hkm hy, Option.bind_some, if_pos (show mc1 .ne (nI 1) = true by decide), e, Option.bind_some, if_neg (show ¬ mc1 .ne (nI 0) = true by decide)]
  · refine ⟨-1001, s, tl, I, J, I, J, ?_, ?_, h, hS, ho, same, hk, rfl, rfl⟩
    · show m130_0 F 0 _ _ _ = _
      unfold m130_0
      rw [gr0_2, Option.bind_some, rc8, Option.bind_some, eh0 hkp ha, Option.bind_some, if_neg (show ¬ mc1 .ne (nI 0) = true by decide)]
    · show m197_0 F 26 _ _ _ = _
      unfold m197_0
      rw [rc26, Option.bind_some, ie0 hkm ha, Option.bind_some, if_neg (show ¬ mc1 .ne (nI 0) = true by decide)]
end S
