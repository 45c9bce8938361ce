/-! The law's walk over pictures. -/
def lvL (nm t : Nat) : List (Nat × Value) := [(0, .ref 1000000), (1, .ref 0), (2, .ref nm), (3, .int (nI (4 * t)))]
abbrev lAs (s : State) : Nat → Prop := fun q => s.heap.size ≤ q
def LW (L : Nat) (xs : Nat → Int32) (nm t pc : Nat) (st : List Value) (hp : List mE) (c w : Nat) : Prop :=
  ∀ (p : Program) (l : Launch) (e : Env) (s : State) (m : MethodId) (below : List Frame) (meth : Method) (cd : Code) (b : Nat) (dC : Nat → ClassId) (dI : Nat → Nat → Nat) (dA : Nat → ClassId), lw_At p s m meth cd b L xs → va_K (dC, dI) mcl (mty dA) s →
    ∀ (ad : Nat → Nat) (H : Heap) (locs : List Loc) (ls : Array Slot), ad 1000000 = b → va_P (dC, dI) mcl (mws dA ad hp) H → va_D (lAs s) (mws dA ad hp) → va_S (lAs s) s.heap H locs → lv_has ls 4 (mlv ad (lvL nm t)) → SPx ad (lAs s) s →
      W p l e room_1 s m #[Value.ref b] below meth cd H locs c w (lw_Z below #[Value.ref b] s) (F0 m pc ls (st.map (mv ad)))
section LWS
variable {L : Nat} {xs : Nat → Int32} {nm t pc : Nat} {st st' rr as : List Value} {hp hp1 : List mE} {c w n : Nat} {i : Instr}
theorem LW.pure (hd : decode code pc = .ok (i, n)) (h : mpure i st = some (st', n)) (k : LW L xs nm t (pc + n) st' hp c w) : LW L xs nm t pc st hp c w := by
  intro p l e s m below meth cd b dC dI dA C0 hK ad H locs ls hb hP hD hS hl hSx
  exact mpure_W C0.1 C0.2.1 h hd (k p l e s m below meth cd b dC dI dA C0 hK ad H locs ls hb hP hD hS hl hSx)
theorem LW.ld (hd : decode code pc = .ok (i, n)) (h : mloc 4 i (lvL nm t) st = some (lvL nm t, st', n)) (k : LW L xs nm t (pc + n) st' hp c w) : LW L xs nm t pc st hp c w := by
  intro p l e s m below meth cd b dC dI dA C0 hK ad H locs ls hb hP hD hS hl hSx
  exact mloc_W C0.1 C0.2.1 h hd hl (fun ls' hl' => k p l e s m below meth cd b dC dI dA C0 hK ad H locs ls' hb hP hD hS hl' hSx)
theorem LW.jmp {pc' : Nat} (hd : decode code pc = .ok (i, n)) (h : mjmp pc n i st = some (pc', st')) (k : LW L xs nm t pc' st' hp c w) : LW L xs nm t pc st hp c w := by
  intro p l e s m below meth cd b dC dI dA C0 hK ad H locs ls hb hP hD hS hl hSx
  exact mjmp_W C0.1 C0.2.1 h hd (k p l e s m below meth cd b dC dI dA C0 hK ad H locs ls hb hP hD hS hl hSx)
theorem LW.len (hd : decode code pc = .ok (.arraylength, 1)) (k : LW L xs nm t (pc + 1) (.int (Int32.ofNat L) :: rr) hp c w) : LW L xs nm t pc (.ref 1000000 :: rr) hp c w := by
  intro p l e s m below meth cd b dC dI dA C0 hK ad H locs ls hb hP hD hS hl hSx
  obtain ⟨hx, hcb, hr, hml, hown, hts, hX, hbl, hlk, hgv⟩ := id C0
  subst hb
  exact va_slen hx hcb hX hbl (Nat.not_le.mpr hbl) hS hd (k p l e s m below meth cd _ dC dI dA C0 hK ad H locs ls rfl hP hD hS hl hSx)
theorem LW.get {j : Nat} (hd : decode code pc = .ok (.iaload, 1)) (hj : j < L) (hL : L ≤ 256) (k : LW L xs nm t (pc + 1) (.int (xs j) :: rr) hp c w) : LW L xs nm t pc (.int (nI j) :: .ref 1000000 :: rr) hp c w := by
  intro p l e s m below meth cd b dC dI dA C0 hK ad H locs ls hb hP hD hS hl hSx
  obtain ⟨hx, hcb, hr, hml, hown, hts, hX, hbl, hlk, hgv⟩ := id C0
  subst hb
  have g := k p l e s m below meth cd _ dC dI dA C0 hK ad H locs ls rfl hP hD hS hl hSx
  refine va_sld (i := nI j) hx hcb hX hbl (Nat.not_le.mpr hbl) hS (vp_in_nI hj (by omega)) hd ?_
  rw [nI_clamp (by omega)]
  exact g
theorem LW.con (hd : decode code pc = .ok (.ldc2_w 13, 3)) (k : LW L xs nm t (pc + 3) (.long 4294967295 :: st) hp c w) : LW L xs nm t pc st hp c w := by
  intro p l e s m below meth cd b dC dI dA C0 hK ad H locs ls hb hP hD hS hl hSx
  obtain ⟨hx, hcb, hr, hml, hown, hts, hX, hbl, hlk, hgv⟩ := id C0
  exact lv_ldc2 hx hcb hown (hts _ (wat_in lnA.2.2.2.2)) hd (k p l e s m below meth cd b dC dI dA C0 hK ad H locs ls hb hP hD hS hl hSx)
/-- script[i + j] on the stack -/
theorem LW.arg {j : Nat} (h0 : decode code pc = .ok (.aload_n 0, 1)) (h1 : decode code (pc + 1) = .ok (.iload_n 3, 1)) (h2 : decode code (pc + 2) = .ok (.iconst (j : Int), 1)) (h3 : decode code (pc + 3) = .ok (.iadd, 1)) (h4 : decode code (pc + 4) = .ok (.iaload, 1)) (hj : j ≤ 3) (hn : 4 * t + 4 ≤ L) (hL : L ≤ 256)
    (k : LW L xs nm t (pc + 5) (.int (xs (4 * t + j)) :: st) hp c w) : LW L xs nm t pc st hp c w := by
  refine LW.ld h0 rfl ?_
  refine LW.ld h1 rfl ?_
  refine LW.pure h2 rfl ?_
  refine LW.pure h3 rfl ?_
  have e1 : nI (4 * t) + Int32.ofInt (j : Int) = nI (4 * t + j) := by
    rw [← nI_add]
    rcases (show j = 0 ∨ j = 1 ∨ j = 2 ∨ j = 3 by omega) with rfl | rfl | rfl | rfl <;> rfl
  show LW L xs nm t (pc + 4) (.int (nI (4 * t) + Int32.ofInt (j : Int)) :: .ref 1000000 :: st) hp c w
  rw [e1]
  exact LW.get h4 (by omega) hL k
theorem LW.call {ix k' pl pi ps c1 w1 f : Nat} {v : Option Value} {q : mM} (hd : decode code pc = .ok (.invokevirtual ix, 3)) (hk : (ix, (k', pl, pi, ps)) ∈ llk) (hq : mtb[k']? = some q) (hst : st = as.reverse ++ rr) (hna : as.length = q.2.2.2.2.2.2.2 + 1) (hrun : exec f 30 k' 0 (lv_args 0 as) [] hp 0 0 = some (v, hp1, c1, w1)) (hrc : mrcv 0 k' as hp = true) (hcat : (rr.map fun v => v.category).sum ≤ 8) (hrok : rr.all (mokv hp.length) = true) (h0 : 0 < hp.length) (hnm : nm < hp.length) (hlen : (lg_sl as).length ≤ mlen k') (hc : c + c1 ≤ room_1.cells) (hw : w + w1 ≤ room_1.slots)
    (k : hp.length ≤ hp1.length → LW L xs nm t (pc + 3) (v.toList ++ rr) hp1 (c + c1) (w + w1)) : LW L xs nm t pc st hp c w := by
  intro p l e s m below meth cd b dC dI dA C0 hK ad H locs ls hb hP hD hS hl hSx
  obtain ⟨hx, hcb, hr, hml, hown, hts, hX, hbl, hlk, hgv⟩ := id C0
  obtain ⟨k1, k2, k3, k4, k5, k6, k7⟩ := mt_ok hq
  obtain ⟨w1a, w2a, w3a⟩ := ll_ok hk hq
  have htg : ∀ x ∈ gtbl, x.before #[Value.ref b] s = true := fun x hx1 => hts x (List.mem_filter.mp hx1).1
  have htn : ∀ x ∈ ntbl, va_Nw x s := fun x hx1 => va_Nw.of (nw_on (nt_is hx1)) (hts x (List.mem_filter.mp hx1).1)
  obtain ⟨-, hsc⟩ := sim l dC dI dA _ _ _ _ _ _ _ _ _ _ _ _ _ hrun
  have hM := met_of hq hsc hlen ad H.size
  have hA1 : ∀ x, va_A (mws dA ad hp) H.size x → lAs s x := by
    intro x hx1
    rcases hx1 with ⟨j, e1, h1⟩ | h1
    · exact hD.2 j _ h1
    · exact Nat.le_trans hS.1 h1
  have hR1 : (mrm 30 c1 w1).frames + 1 ≤ room_1.frames := by show 31 ≤ 2048; omega
  have hR2 : 8 + (q.2.2.1 + 11) + (mrm 30 c1 w1).locals ≤ room_1.locals := by
    show 8 + (q.2.2.1 + 11) + 60 * 30 ≤ 84000
    omega
  obtain ⟨bb, As, fs, rfl, hcb2⟩ := mrcv_inv (by omega) hrc
  have hpre : ∀ U : State, U.heap = H → s.WarmedH U.vm → mPc dC dI dA ad hp (.ref bb :: As) H.size ((Value.ref bb :: As).map (mv ad)).toArray U := fun U hU hW => ⟨rfl, by rw [hU], by rw [hU]; exact hP, va_K.moved hW.alike hK, hD.weaken (fun _ _ _ _ => trivial), fun w1 hw1 => nw_warm (nt_is hw1) hW (htn w1 hw1), SPx_call hSx hS hA1 hU hW⟩
  have hnA : (As.map (mv ad)).length = q.2.2.2.2.2.2.2 := by rw [List.length_map]; simpa using hna
  have hst2 : (F0 m pc ls (st.map (mv ad))).stack = (As.map (mv ad)).reverse ++ .ref (ad bb) :: rr.map (mv ad) := by
    show st.map (mv ad) = _
    rw [hst, List.map_append, List.map_reverse]
    show (Value.ref (ad bb) :: As.map (mv ad)).reverse ++ _ = _
    rw [List.reverse_cons, List.append_assoc]
    rfl
  have hcN : ∃ r, mcl[mown k']? = some r ∧ r.1 = q.1.cls := by
    obtain ⟨r, hr1, -⟩ := hP bb _ (mws_get hcb2)
    refine ⟨r, hr1, ?_⟩
    rw [k3]
    unfold cnm
    rw [hr1]
  obtain ⟨r1, hr1, hr2⟩ := hcN
  have hrv := va_recv hK hP hr1 (mws_get hcb2)
  rw [hr2] at hrv
  have hroom : 2 * (F0 m pc ls (st.map (mv ad))).monitorRoom + ((rr.map (mv ad)).map fun v => v.category).sum ≤ 8 := lv_room (by rw [cat_sum]; exact hcat)
  refine callX (rest := rr.map (mv ad)) (a := ((Value.ref bb :: As).map (mv ad)).toArray) (mc := c1) (ms := w1) (n0 := hp.length) (ad := ad) (dC := dC) (dI := dI) (dA := dA) (v := v) (hp1 := hp1) ?_ hS hA1 ?_
  · exact va_runV (As := As.map (mv ad)) (C := q.1.cls) ⟨hx, hcb, hml, hown, htg⟩ hM ⟨callB_of q.2.2.2.2.2.2.2 htg (gdI k1) rfl rfl rfl (htg _ k2) (htg _ w1a) ⟨k6.1, k6.2, k4⟩ ⟨hR1, hR2⟩, htg _ w2a, htg _ w3a⟩ ⟨mPc_blind, hrv, hpre⟩ rfl hnA hl.1 hst2 hroom hd ⟨hc, hw⟩
  · intro ad' H1 locs1 g1 g2 g3 g4 g5
    have hok : (lvL nm t).all (fun q => mokv hp.length q.2) = true := by
      simp [lvL, mokv, h0, hnm]
    have hh := k g2 p l e s m below meth cd b dC dI dA C0 hK ad' H1 locs1 ls (by rw [g1 1000000 (by omega)]; exact hb) g3 g4 g5 (by rw [mag_lv g1 hok]; exact hl) (SPx_mag g1 hSx)
    have e1 : (v.toList ++ rr).map (mv ad') = (v.map (mv ad')).toList ++ rr.map (mv ad) := by
      rw [List.map_append, mag_l g1 hrok]
      cases v <;> rfl
    rw [e1] at hh
    exact hh
/-- the loop's end: 4 more -/
theorem LW.next (k : LW L xs nm (t + 1) 18 [] hp c w) : LW L xs nm t 1054 [] hp c w := by
  intro p l e s m below meth cd b dC dI dA C0 hK ad H locs ls hb hP hD hS hl hSx
  obtain ⟨hx, hcb, hr, hml, hown, hts, hX, hbl, hlk, hgv⟩ := id C0
  refine lv_iinc (v := nI (4 * (t + 1))) (lv' := [(3, .int (nI (4 * (t + 1)))), (0, .ref (ad 1000000)), (1, .ref (ad 0)), (2, .ref (ad nm))]) hx hcb dL_1054 hl (k := 3) rfl ?_ (by decide) rfl (fun ls hl => ?_)
  · rw [show 4 * (t + 1) = 4 * t + 4 by omega, ← nI_add]
    rfl
  refine lv_goto (tgt := 18) hx hcb dL_1057 (by decide) ?_
  exact k p l e s m below meth cd b dC dI dA C0 hK ad H locs ls hb hP hD hS (lv_sub hl [1, 2, 3, 0] rfl) hSx
theorem LW.fin (hc : c ≤ room_1.cells) (hw : w ≤ room_1.slots) : LW L xs nm t 1060 [] hp c w := by
  refine LW.pure dL_1060 rfl ?_
  intro p l e s m below meth cd b dC dI dA C0 hK ad H locs ls hb hP hD hS hl hSx
  obtain ⟨hx, hcb, hr, hml, hown, hts, hX, hbl, hlk, hgv⟩ := id C0
  refine va_forget (fun q hq => hS.2.2 q hq) ?_
  refine W.widen (k := room_1.cells) (n := room_1.slots) hc hw ?_
  exact lw_ret hx hcb hr hlk dL_1061
/-- the loop's head -/
theorem LW.head (hL : L ≤ 256) (ht : t ≤ 64) (hc : c ≤ room_1.cells) (hw : w ≤ room_1.slots) (k : 4 * t + 4 ≤ L → LW L xs nm t 26 [] hp c w) : LW L xs nm t 18 [] hp c w := by
  refine LW.ld dL_18 rfl ?_
  refine LW.ld dL_19 rfl ?_
  refine LW.len dL_20 ?_
  refine LW.pure dL_21 rfl ?_
  refine LW.pure dL_22 rfl ?_
  by_cases h4 : 4 * t + 4 ≤ L
  · refine LW.jmp (pc' := 26) (st' := []) dL_23 ?_ (k h4)
    show mif 23 1037 (mc2 .gt (nI (4 * t)) (Int32.ofNat L - Int32.ofInt 4)) [] = some (26, [])
    have e1 : Int32.ofNat L - Int32.ofInt 4 = nI (L - 4) := pk_sub (a := L) (b := 4) (by omega)
    have e2 : mc2 .gt (nI (4 * t)) (nI (L - 4)) = false := decide_eq_false (nI_nlt (by omega) (by omega))
    rw [e1, e2]
    rfl
  · refine LW.jmp (pc' := 1060) (st' := []) dL_23 ?_ (LW.fin hc hw)
    show mif 23 1037 (mc2 .gt (nI (4 * t)) (Int32.ofNat L - Int32.ofInt 4)) [] = some (1060, [])
    have e2 : mc2 .gt (nI (4 * t)) (Int32.ofNat L - Int32.ofInt 4) = true := by
      refine decide_eq_true ?_
      rw [Int32.lt_iff_toInt_lt, nI_toInt (by omega)]
      have e3 : (Int32.ofNat L - Int32.ofInt 4).toInt = (L : Int) - 4 := pk_sub_toInt (a := L) (b := 4) (by omega) (by omega)
      rw [e3]
      omega
    rw [e2]
    rfl
end LWS
