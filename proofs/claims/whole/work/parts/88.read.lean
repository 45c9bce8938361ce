/-! Where the caches stand; forgetting what was counted; the call read of both. -/
def lyS (sh : List hQ) (b : Nat) : Prop := sh[b]? = some (.inr (2, lyk b)) ∧ sh[b + 1]? = some (.inl (1, 5)) ∧ sh[b + 2]? = some (.inl (1, 4096)) ∧ sh[b + 3]? = some (.inl (0, 32)) ∧ shS sh (b + 4) 4096
def siS (sh : List hQ) (b : Nat) : Prop := sh[b]? = some (.inr (7, sik b)) ∧ sh[b + 1]? = some (.inl (1, 7500)) ∧ sh[b + 2]? = some (.inl (1, 5)) ∧ shS sh (b + 3) 512
def idS (sh : List hQ) (b : Nat) : Prop := sh[b]? = some (.inr (0, idk b)) ∧ sh[b + 1]? = some (.inl (1, 5)) ∧ sh[b + 2]? = some (.inl (0, 1280)) ∧ sh[b + 3]? = some (.inl (1, 65536)) ∧ sh[b + 4]? = some (.inl (2, 256)) ∧ shS sh (b + 5) 256
/-- a cache is not there, or stands at b -/
def caC (v : Value) (P : Nat → Prop) : Prop := v = .null ∨ ∃ b : Nat, v = .ref b ∧ 54 ≤ b ∧ P b
def caS (l s d : Value) (tl : List hQ) : Prop := caC l (lyS (hs l s d tl)) ∧ caC s (siS (hs l s d tl)) ∧ caC d (idS (hs l s d tl))
/-- one field of a cache says that nothing was counted -/
def fg1 (v : Value) (f : Nat) (I I' : hI) : Prop := (∀ c : Nat, v ≠ .ref c → I' c = I c) ∧ ∀ b : Nat, v = .ref b → I' b = upI I b f (-1) b
section S
variable {l s d : Value} {tl : List hQ} {F : Nat} {I : hI} {J : hJ} {n : Nat} {T : tT} {els : List (List Nat)} {x : List Nat} {N : Nat} {tx : Nat → Nat} {fl : Int32}
theorem fg1_n {f : Nat} : fg1 .null f I I := ⟨fun _ _ => rfl, fun b h => by cases h⟩
theorem fg1_r {f b : Nat} : fg1 (.ref b) f I (upI I b f (-1)) := by
  refine ⟨fun c hc => upI_ne (fun e => hc (by rw [e])), fun b' h => ?_⟩
  cases h
  rfl
theorem fg_d (h : caS l s d tl) : ∃ I', m106_28 F 0 (mkH (hs l s d tl) I J) = some ((), (mkH (hs l s d tl) I' J)) ∧ fg1 d 7 I I' := by
  unfold m106_28 m106_42
  rcases h.2.2 with rfl | ⟨b, rfl, hb, h1, _⟩
  · exact ⟨I, by rw [gfq_N q0 rfl, Option.bind_some, if_pos rfl], fg1_n⟩
  · refine ⟨_, ?_, fg1_r⟩
    rw [gfq_H (b := b) q0 rfl, Option.bind_some, if_neg (by simp), gfr_H q0 rfl h1, Option.bind_some, rcv_H h1, Option.bind_some]
    show ((m1_0 F b _).bind _) = _
    unfold m1_0
    rw [pfi_H h1 rfl, Option.bind_some, Option.bind_some]
theorem fg_s (h : caS l s d tl) : ∃ I1 I', m106_14 F 0 (mkH (hs l s d tl) I J) = some ((), (mkH (hs l s d tl) I' J)) ∧ fg1 s 5 I I1 ∧ fg1 d 7 I1 I' := by
  unfold m106_14
  rcases id h.2.1 with rfl | ⟨b, rfl, hb, h1, _⟩
  · obtain ⟨I', e, g⟩ := fg_d (F := F) (I := I) (J := J) h
    exact ⟨I, I', by rw [gfq_N q0 rfl, Option.bind_some, if_pos rfl, e], fg1_n, g⟩
  · obtain ⟨I', e, g⟩ := fg_d (F := F) (I := upI I b 5 (-1)) (J := J) h
    refine ⟨_, I', ?_, fg1_r, g⟩
    rw [gfq_H (b := b) q0 rfl, Option.bind_some, if_neg (by simp), gfr_H q0 rfl h1, Option.bind_some, rcv_H h1, Option.bind_some]
    show ((m69_0 F b _).bind _) = _
    unfold m69_0
    rw [pfi_H h1 rfl, Option.bind_some, Option.bind_some, e]
/-- what was counted is forgotten -/
def fgt (l s d : Value) (I I' : hI) : Prop := ∃ I1 I2, fg1 l 8 I I1 ∧ fg1 s 5 I1 I2 ∧ fg1 d 7 I2 I'
theorem fg_e (h : caS l s d tl) : ∃ I', e106 F 0 (mkH (hs l s d tl) I J) = some ((), (mkH (hs l s d tl) I' J)) ∧ fgt l s d I I' := by
  show ∃ I', m106_0 F 0 (mkH (hs l s d tl) I J) = _ ∧ _
  unfold m106_0
  rcases id h.1 with rfl | ⟨b, rfl, hb, h1, _⟩
  · obtain ⟨I1, I', e, g1, g2⟩ := fg_s (F := F) (I := I) (J := J) h
    exact ⟨I', by rw [gfq_N q0 rfl, Option.bind_some, if_pos rfl, e], I, I1, fg1_n, g1, g2⟩
  · obtain ⟨I1, I', e, g1, g2⟩ := fg_s (F := F) (I := upI I b 8 (-1)) (J := J) h
    refine ⟨I', ?_, _, I1, fg1_r, g1, g2⟩
    rw [gfq_H (b := b) q0 rfl, Option.bind_some, if_neg (by simp), gfr_H q0 rfl h1, Option.bind_some, rcv_H h1, Option.bind_some]
    show ((m22_0 F b _).bind _) = _
    unfold m22_0
    rw [pfi_H h1 rfl, Option.bind_some, Option.bind_some, e]
theorem fg1_lo {v : Value} {f : Nat} {P : Nat → Prop} {I' : hI} (h : fg1 v f I I') (hv : caC v P) : ∀ c, c < 54 → I' c = I c := by
  intro c hc
  refine h.1 c (fun e => ?_)
  rcases hv with rfl | ⟨b, rfl, hb, _⟩
  · cases e
  · cases e
    omega
theorem fgt_lo {I' : hI} (h : fgt l s d I I') (hS : caS l s d tl) : ∀ c, c < 54 → I' c = I c := by
  obtain ⟨I1, I2, h1, h2, h3⟩ := h
  intro c hc
  rw [fg1_lo h3 hS.2.2 c hc, fg1_lo h2 hS.2.1 c hc, fg1_lo h1 hS.1 c hc]
/-- what reading leaves of the caches -/
def fgo (l s d : Value) (I I' : hI) (J J' : hJ) : Prop := (∀ c : Nat, 45 ≤ c → l ≠ .ref c → s ≠ .ref c → d ≠ .ref c → I' c = I c) ∧ (∀ b : Nat, l = .ref b → I' b = upI I b 8 (-1) b) ∧ (∀ b : Nat, s = .ref b → I' b = upI I b 5 (-1) b) ∧ (∀ b : Nat, d = .ref b → I' b = upI I b 7 (-1) b) ∧ (∀ c, 45 ≤ c → J' c = J c) ∧ I' 26 30 = gI 1
theorem caS_ne (hS : caS l s d tl) : (∀ b : Nat, l = .ref b → s ≠ .ref b ∧ d ≠ .ref b) ∧ ∀ b : Nat, s = .ref b → d ≠ .ref b := by
  obtain ⟨h1, h2, h3⟩ := hS
  constructor
  · rintro b rfl
    rcases h1 with e | ⟨b1, e, _, g1⟩
    · cases e
    cases e
    constructor
    · rintro rfl
      rcases h2 with e | ⟨b2, e, _, g2⟩
      · cases e
      cases e
      have := g1.1.symm.trans g2.1
      simp at this
    · rintro rfl
      rcases h3 with e | ⟨b2, e, _, g2⟩
      · cases e
      cases e
      have := g1.1.symm.trans g2.1
      simp at this
  · rintro b rfl
    rcases h2 with e | ⟨b1, e, _, g1⟩
    · cases e
    cases e
    rintro rfl
    rcases h3 with e | ⟨b2, e, _, g2⟩
    · cases e
    cases e
    have := g1.1.symm.trans g2.1
    simp at this
theorem fgt_o {I' : hI} (h : fgt l s d I I') (hS : caS l s d tl) : (∀ c : Nat, l ≠ .ref c → s ≠ .ref c → d ≠ .ref c → I' c = I c) ∧ (∀ b : Nat, l = .ref b → I' b = upI I b 8 (-1) b) ∧ (∀ b : Nat, s = .ref b → I' b = upI I b 5 (-1) b) ∧ (∀ b : Nat, d = .ref b → I' b = upI I b 7 (-1) b) := by
  obtain ⟨I1, I2, h1, h2, h3⟩ := h
  obtain ⟨n1, n2⟩ := caS_ne hS
  have u : ∀ (K K' : hI) (b f : Nat), K b = K' b → upI K b f (-1) b = upI K' b f (-1) b := by
    intro K K' b f e
    funext j
    rw [upI_at, upI_at, e]
  refine ⟨fun c a b e => ?_, fun b e => ?_, fun b e => ?_, fun b e => ?_⟩
  · rw [h3.1 c e, h2.1 c b, h1.1 c a]
  · rw [h3.1 b (n1 b e).2, h2.1 b (n1 b e).1, h1.2 b e]
  · rw [h3.1 b (n2 b e), h2.2 b e]
    exact u _ _ _ _ (h1.1 b (fun hh => (n1 b hh).1 e))
  · rw [h3.2 b e]
    refine u _ _ _ _ ?_
    rw [h2.1 b (fun hh => n2 b hh e), h1.1 b (fun hh => (n1 b hh).2 e)]
/-- read -/
theorem op1 (h : st n T els x N tx fl I J) (hS : caS l s d tl) (hF : 300 ≤ F) : ok2 (hs l s d tl) (e105 F 0) (e148 F 26) I J (fun I' J' => ∃ n' T' els' x' fl', st n' T' els' x' 0 tx fl' I' J' ∧ (n' = n ∧ T' = T ∧ els' = els ∧ opf I I' J J' ∨ els' = [[]] ∧ fgo l s d I I' J J')) := by
  obtain ⟨hT, ⟨c1, c2, c3, c4, c5, c6, c7⟩, hrf⟩ := h
  obtain ⟨v, I1, e1, t1, t2, t3⟩ := pr_s (l := l) (s := s) (d := d) (tl := tl) (F := F) (J := J) c6 hF
  have ec : e105 F 0 (mkH (hs l s d tl) I J) = m105_0 F 0 (mkH (hs l s d tl) I J) := rfl
  rcases t3 with ⟨m, T1, p1, rfl, p3, p4, p5, p6, p7⟩ | ⟨c, q, p1, p2, p3, p4, rfl, p6⟩
  · have hT1 : tok T1 := prs_ok _ tok_0 p1
    obtain ⟨I2, e2, b1, b2, b3⟩ := bec_e (l := l) (s := s) (d := d) (tl := tl) (F := F) (I := I1) (J := J) hT1 p5 p6 hF p7
    obtain ⟨I3, J3, e3, k1, k2, k3⟩ := kbg_e (l := l) (s := s) (d := d) (tl := tl) (F := F) (I := I2) (J := J) b1 hF
    obtain ⟨I4, e4, f4⟩ := fg_e (F := F) (I := upI I3 0 7 (nI 0)) (J := J3) hS
    have lo := fgt_lo f4 hS
    have z1 : cl_n m (gA T1) I4 := cl_fr b1 (by rw [lo 1 (by decide), upI_ne (by decide), k2 1 (by decide) (by decide)]) (by rw [lo 3 (by decide), upI_ne (by decide), k2 3 (by decide) (by decide)])
    have hc : e105 F 0 (mkH (hs l s d tl) I J) = some (nI m, (mkH (hs l s d tl) I4 J3)) := by
      rw [ec]
      unfold m105_0
      rw [gr0_1, Option.bind_some, rc4, Option.bind_some, e1, Option.bind_some, if_pos (show mc1 .eq (nI 0) = true by rw [g_eq0]; rfl), gr0_0, Option.bind_some, gr0_1, Option.bind_some, gi4_5, Option.bind_some, Option.bind_some, gr4_6, Option.bind_some, rc1, Option.bind_some, p4, e2, Option.bind_some, gr0_2, Option.bind_some, rc8, Option.bind_some, e3, Option.bind_some]
      have e5 : pfv 10 7 (mkH (hs l s d tl) I3 J3) 0 (.int 0) = some (mkH (hs l s d tl) (upI I3 0 7 (nI 0)) J3) := pi0_7
      rw [e5, Option.bind_some, rc0, Option.bind_some, e4, Option.bind_some, gr0_0, Option.bind_some, gi1_0, Option.bind_some, z1.2.2.2.1]
    have c26 : ∀ c, 26 ≤ c → c < 54 → I4 c = I c := fun c a b => by rw [lo c b, upI_ne (by omega), k2 c (by omega) (by omega), b3 c (by omega) (by omega) (by omega), t1 c (by omega) (by omega) (by omega)]
    have hr5 : rtb N tx I4 := by
      have := hrf.2.2.2.2.1
      unfold rtb at *
      rw [c26 26 (by decide) (by decide), c26 30 (by decide) (by decide)]
      exact this
    obtain ⟨v5, I5, J5, e5, y1, y2, y3⟩ := rrd_e (l := l) (s := s) (d := d) (tl := tl) (F := F) (I := I4) (J := J3) hr5 hF
    rcases y3 with ⟨m', T', w1, w2, rfl, w4, w5, w6, w7, w8, w9, w10, w11, w12⟩ | ⟨c, q, w1, _⟩
    · rw [p1] at w1
      cases w1
      have lo5 : ∀ c, c < 26 → I5 c = I4 c ∧ J5 c = J3 c := fun c hc => ⟨w12 c (by omega) (by omega) (by omega) (by omega) (by omega) (by omega), y2 c (by omega)⟩
      refine ⟨_, I4, J3, I5, J5, hc, e5, m, T1, [[]], [], gI 1, ⟨w2, stc_r ⟨z1, fun i j a b => ?_, ?_, ?_, wd_nil, ⟨by omega, ?_, fun i hi => absurd hi (by omega)⟩, ?_⟩ lo5, ⟨w6, w7, w8, w9, ⟨by omega, y1, fun i hi => absurd hi (by omega)⟩, w11⟩⟩, Or.inr ⟨rfl, ?_⟩⟩
      · rw [lo 2 (by decide), upI_ne (by decide), k2 2 (by decide) (by decide)]
        exact b2 i j a b
      · exact kp_fr k1 (by rw [lo 8 (by decide), upI_ne (by decide)]) (by rw [lo 9 (by decide), upI_ne (by decide)]) (by rw [lo 10 (by decide), upI_ne (by decide)]) rfl rfl
      · rw [lo 0 (by decide), upI_at, if_pos rfl]
        rfl
      · rw [lo 4 (by decide), upI_ne (by decide), k2 4 (by decide) (by decide), b3 4 (by decide) (by decide) (by decide)]
        exact t2
      · rw [lo 4 (by decide), upI_ne (by decide), k2 4 (by decide) (by decide), b3 4 (by decide) (by decide) (by decide)]
        exact p3
      · obtain ⟨o1, o2, o3, o4⟩ := fgt_o f4 hS
        have hI : ∀ c, 26 ≤ c → upI I3 0 7 (nI 0) c = I c := fun c hc => by rw [upI_ne (by omega), k2 c (by omega) (by omega), b3 c (by omega) (by omega) (by omega), t1 c (by omega) (by omega) (by omega)]
        have u : ∀ (b f : Nat), 54 ≤ b → upI (upI I3 0 7 (nI 0)) b f (-1) b = upI I b f (-1) b := by
          intro b f hb
          funext j
          rw [upI_at (a := b), upI_at (a := b), hI b (by omega)]
        have h5 : ∀ c, 45 ≤ c → I5 c = I4 c := fun c hc => w12 c (by omega) (by omega) (by omega) (by omega) (by omega) (by omega)
        have big : ∀ {v : Value} {P : Nat → Prop} (b : Nat), caC v P → v = .ref b → 54 ≤ b := by
          intro v P b hv e
          rcases hv with rfl | ⟨b', rfl, hb, _⟩
          · cases e
          · cases e
            exact hb
        refine ⟨fun c a b1 b2 b3 => by rw [h5 c a, o1 c b1 b2 b3, hI c (by omega)], fun b e => ?_, fun b e => ?_, fun b e => ?_, fun c a => by rw [y2 c (by omega), k3 c (by omega) (by omega)], w10⟩
        · have := big b hS.1 e
          rw [h5 b (by omega), o2 b e, u b 8 this]
        · have := big b hS.2.1 e
          rw [h5 b (by omega), o3 b e, u b 5 this]
        · have := big b hS.2.2 e
          rw [h5 b (by omega), o4 b e, u b 7 this]
    · rw [p1] at w1
      cases w1
  · have hc : e105 F 0 (mkH (hs l s d tl) I J) = some ((-10) - nI c, (mkH (hs l s d tl) I1 J)) := by
      rw [ec]
      unfold m105_0
      rw [gr0_1, Option.bind_some, rc4, Option.bind_some, e1, Option.bind_some, if_neg (show ¬ mc1 .eq (nI c) = true by rw [d_eq (by omega)]; omega)]
    have c26 : ∀ c, 26 ≤ c → I1 c = I c := fun c a => t1 c (by omega) (by omega) (by omega)
    have hcf : cfr I I1 J J := fun c a => ⟨c26 c a, rfl⟩
    have hs1 := str_c hrf hcf
    obtain ⟨v5, I5, J5, e5, y1, y2, y3⟩ := rrd_e (l := l) (s := s) (d := d) (tl := tl) (F := F) (I := I1) (J := J) hs1.2.2.2.2.1 hF
    rcases y3 with ⟨m', T', w1, _⟩ | ⟨c', q', w1, rfl, w3, w4, w5⟩
    · rw [p1] at w1
      cases w1
    · rw [p1] at w1
      cases w1
      obtain ⟨s1, s2, s3, s4, s5, s6⟩ := hs1
      refine ⟨_, I1, J, I5, J5, hc, e5, n, T, els, x, nI q, ⟨hT, stc_r ⟨cl_fr c1 (t1 1 (by decide) (by decide) (by decide)) (t1 3 (by decide) (by decide) (by decide)), fun i j a b => by rw [t1 2 (by decide) (by decide) (by decide)]; exact c2 i j a b, kp_fr c3 (t1 8 (by decide) (by decide) (by decide)) (t1 9 (by decide) (by decide) (by decide)) (t1 10 (by decide) (by decide) (by decide)) rfl rfl, by rw [t1 0 (by decide) (by decide) (by decide)]; exact c4, by rw [t1 25 (by decide) (by decide) (by decide)]; exact c5, ⟨by omega, t2, fun i hi => absurd hi (by omega)⟩, p6⟩ (fun c hc => ⟨w4 c (by omega) (by omega) (by omega), y2 c (by omega)⟩), ⟨mo_fr s1 (w5 0 (by decide) (by decide) (by decide) (by decide) (by decide) (by decide)) (w4 28 (by decide) (by decide) (by decide)), fun i j a b => by rw [w4 27 (by decide) (by decide) (by decide)]; exact s2 i j a b, km_fr s3 (w5 16 (by decide) (by decide) (by decide) (by decide) (by decide) (by decide)) (w4 34 (by decide) (by decide) (by decide)) (w4 35 (by decide) (by decide) (by decide)), ⟨s4.1, s4.2.1, by rw [w5 19 (by decide) (by decide) (by decide) (by decide) (by decide) (by decide)]; exact s4.2.2.1, by rw [w4 36 (by decide) (by decide) (by decide)]; exact s4.2.2.2⟩, ⟨by omega, y1, fun i hi => absurd hi (by omega)⟩, w3⟩⟩, Or.inl ⟨rfl, rfl, rfl, ?_⟩⟩
      exact opf_tr (cfr_o hcf) ⟨fun c hc => ⟨w4 c (by omega) (by omega) (by omega), y2 c (by omega)⟩, w5 30 (by decide) (by decide) (by decide) (by decide) (by decide) (by decide), w5 31 (by decide) (by decide) (by decide) (by decide) (by decide) (by decide)⟩
end S
