/-! The law out of steps of the small machine. -/
def lkx (o : Nat) : Nat := match o with
  | 0 => 104
  | 1 => 105
  | 2 => 107
  | 3 => 108
  | 4 => 109
  | 5 => 110
  | 6 => 111
  | 7 => 112
  | 8 => 113
  | 9 => 114
  | 10 => 115
  | 11 => 116
  | 12 => 117
  | 13 => 118
  | 14 => 119
  | 15 => 120
  | 16 => 121
  | 17 => 122
  | 18 => 123
  | 19 => 124
  | 20 => 125
  | 21 => 126
  | 22 => 127
  | 23 => 129
  | 24 => 130
  | 25 => 131
  | 26 => 132
  | 27 => 133
  | 28 => 134
  | _ => 0
def lkm (o : Nat) : Nat := match o with
  | 0 => 139
  | 1 => 148
  | 2 => 149
  | 3 => 151
  | 4 => 152
  | 5 => 153
  | 6 => 161
  | 7 => 166
  | 8 => 167
  | 9 => 168
  | 10 => 170
  | 11 => 171
  | 12 => 172
  | 13 => 173
  | 14 => 175
  | 15 => 179
  | 16 => 180
  | 17 => 181
  | 18 => 183
  | 19 => 186
  | 20 => 189
  | 21 => 192
  | 22 => 193
  | 23 => 194
  | 24 => 197
  | 25 => 205
  | 26 => 206
  | 27 => 207
  | 28 => 208
  | _ => 0
def lty (o : Nat) : Bool := match o with
  | 11 => true
  | 16 => true
  | 18 => true
  | _ => false
def larg (o : Nat) (a b d : Int32) : List Value := match o with
  | 0 => [.int a, .long (lfd b d)]
  | 1 => []
  | 2 => []
  | 3 => [.int a, .int b]
  | 4 => [.int a, .int b]
  | 5 => [.int a]
  | 6 => [.int a]
  | 7 => []
  | 8 => [.int a]
  | 9 => [.int a, .int b]
  | 10 => [.int a, .int b]
  | 11 => [.int a, .int b, .int d]
  | 12 => [.int a, .int b]
  | 13 => [.int a]
  | 14 => [.int a, .int b]
  | 15 => [.int a]
  | 16 => [.int a]
  | 17 => [.int a, .int b]
  | 18 => [.int a, .int b, .int d]
  | 19 => [.int a, .int b, .int d]
  | 20 => [.int a, .int b, .int d]
  | 21 => [.int a]
  | 22 => [.int a]
  | 23 => [.int a]
  | 24 => [.int a, .int b]
  | 25 => [.int a, .int b, .int d]
  | 26 => [.int a, .int b, .int d]
  | 27 => [.int a, .int b]
  | 28 => [.int a]
  | _ => []
/-- one call of both, with one answer -/
def LStep (nm o : Nat) (a b d : Int32) (hp hp2 : List mE) (c' w' : Nat) : Prop :=
  ∃ (v : Value) (f g : Nat) (hp1 : List mE) (c1 w1 c2 w2 : Nat) (gs : List Value), (if lty o = true then ∃ x, v = .long x else ∃ x, v = .int x) ∧ exec f 30 (lkx o) 0 (lv_args 0 (.ref 0 :: larg o a b d)) [] hp 0 0 = some (some v, hp1, c1, w1) ∧ hp1[nm]? = some (.inr (11, gs)) ∧ exec g 30 (lkm o) 0 (lv_args 0 (.ref nm :: larg o a b d)) [] hp1 0 0 = some (some v, hp2, c2, w2) ∧ c' = c1 + c2 ∧ w' = w1 + w2
theorem i31 : (Int8.ofInt 31).toInt32 = 31 := by decide
section LB
variable {L : Nat} {xs : Nat → Int32} {nm t o : Nat} {hp hp2 : List mE} {c w c' w' : Nat} {fs : List Value}
theorem LW.sel (hL : L ≤ 256) (hn : 4 * t + 4 ≤ L) (hop : xs (4 * t) &&& 31 = nI o) (k : LW L xs nm t 32 [.int (nI o)] hp c w) : LW L xs nm t 26 [] hp c w := by
  refine LW.ld dL_26 rfl ?_
  refine LW.ld dL_27 rfl ?_
  refine LW.get (j := 4 * t) dL_28 (by omega) hL ?_
  refine LW.pure dL_29 rfl ?_
  refine LW.pure dL_31 rfl ?_
  show LW L xs nm t 32 [.int (xs (4 * t) &&& (Int8.ofInt 31).toInt32)] hp c w
  rw [i31, hop]
  exact k
theorem lbody (hL : L ≤ 256) (hn : 4 * t + 4 ≤ L) (h0 : 0 < hp.length) (hnm : nm < hp.length) (hx0 : hp[0]? = some (.inr (10, fs))) (ho : o < 29) (hop : xs (4 * t) &&& 31 = nI o) (hs : LStep nm o (xs (4 * t + 1)) (xs (4 * t + 2)) (xs (4 * t + 3)) hp hp2 c' w') (hc : c + c' ≤ room_1.cells) (hw : w + w' ≤ room_1.slots)
    (k : LW L xs nm (t + 1) 18 [] hp2 (c + c') (w + w')) : LW L xs nm t 26 [] hp c w := by
  refine LW.sel hL hn hop ?_
  obtain ⟨v, f, g, hp1, c1, w1, c2, w2, gs, hv, hx, hm0, hm, rfl, rfl⟩ := hs
  rw [← Nat.add_assoc, ← Nat.add_assoc] at k
  match o, ho with
  | 0, _ =>
    obtain ⟨x, rfl⟩ := hv
    exact LW.jmp (pc' := 164) (st' := []) dL_32 rfl (lop_0 hL hn h0 hnm hx0 hm0 hx hm (by omega) (by omega) k)
  | 1, _ =>
    obtain ⟨x, rfl⟩ := hv
    exact LW.jmp (pc' := 227) (st' := []) dL_32 rfl (lop_1 hL hn h0 hnm hx0 hm0 hx hm (by omega) (by omega) k)
  | 2, _ =>
    obtain ⟨x, rfl⟩ := hv
    exact LW.jmp (pc' := 240) (st' := []) dL_32 rfl (lop_2 hL hn h0 hnm hx0 hm0 hx hm (by omega) (by omega) k)
  | 3, _ =>
    obtain ⟨x, rfl⟩ := hv
    exact LW.jmp (pc' := 253) (st' := []) dL_32 rfl (lop_3 hL hn h0 hnm hx0 hm0 hx hm (by omega) (by omega) k)
  | 4, _ =>
    obtain ⟨x, rfl⟩ := hv
    exact LW.jmp (pc' := 286) (st' := []) dL_32 rfl (lop_4 hL hn h0 hnm hx0 hm0 hx hm (by omega) (by omega) k)
  | 5, _ =>
    obtain ⟨x, rfl⟩ := hv
    exact LW.jmp (pc' := 319) (st' := []) dL_32 rfl (lop_5 hL hn h0 hnm hx0 hm0 hx hm (by omega) (by omega) k)
  | 6, _ =>
    obtain ⟨x, rfl⟩ := hv
    exact LW.jmp (pc' := 342) (st' := []) dL_32 rfl (lop_6 hL hn h0 hnm hx0 hm0 hx hm (by omega) (by omega) k)
  | 7, _ =>
    obtain ⟨x, rfl⟩ := hv
    exact LW.jmp (pc' := 365) (st' := []) dL_32 rfl (lop_7 hL hn h0 hnm hx0 hm0 hx hm (by omega) (by omega) k)
  | 8, _ =>
    obtain ⟨x, rfl⟩ := hv
    exact LW.jmp (pc' := 378) (st' := []) dL_32 rfl (lop_8 hL hn h0 hnm hx0 hm0 hx hm (by omega) (by omega) k)
  | 9, _ =>
    obtain ⟨x, rfl⟩ := hv
    exact LW.jmp (pc' := 401) (st' := []) dL_32 rfl (lop_9 hL hn h0 hnm hx0 hm0 hx hm (by omega) (by omega) k)
  | 10, _ =>
    obtain ⟨x, rfl⟩ := hv
    exact LW.jmp (pc' := 434) (st' := []) dL_32 rfl (lop_10 hL hn h0 hnm hx0 hm0 hx hm (by omega) (by omega) k)
  | 11, _ =>
    obtain ⟨x, rfl⟩ := hv
    exact LW.jmp (pc' := 467) (st' := []) dL_32 rfl (lop_11 hL hn h0 hnm hx0 hm0 hx hm (by omega) (by omega) k)
  | 12, _ =>
    obtain ⟨x, rfl⟩ := hv
    exact LW.jmp (pc' := 511) (st' := []) dL_32 rfl (lop_12 hL hn h0 hnm hx0 hm0 hx hm (by omega) (by omega) k)
  | 13, _ =>
    obtain ⟨x, rfl⟩ := hv
    exact LW.jmp (pc' := 544) (st' := []) dL_32 rfl (lop_13 hL hn h0 hnm hx0 hm0 hx hm (by omega) (by omega) k)
  | 14, _ =>
    obtain ⟨x, rfl⟩ := hv
    exact LW.jmp (pc' := 567) (st' := []) dL_32 rfl (lop_14 hL hn h0 hnm hx0 hm0 hx hm (by omega) (by omega) k)
  | 15, _ =>
    obtain ⟨x, rfl⟩ := hv
    exact LW.jmp (pc' := 600) (st' := []) dL_32 rfl (lop_15 hL hn h0 hnm hx0 hm0 hx hm (by omega) (by omega) k)
  | 16, _ =>
    obtain ⟨x, rfl⟩ := hv
    exact LW.jmp (pc' := 623) (st' := []) dL_32 rfl (lop_16 hL hn h0 hnm hx0 hm0 hx hm (by omega) (by omega) k)
  | 17, _ =>
    obtain ⟨x, rfl⟩ := hv
    exact LW.jmp (pc' := 647) (st' := []) dL_32 rfl (lop_17 hL hn h0 hnm hx0 hm0 hx hm (by omega) (by omega) k)
  | 18, _ =>
    obtain ⟨x, rfl⟩ := hv
    exact LW.jmp (pc' := 680) (st' := []) dL_32 rfl (lop_18 hL hn h0 hnm hx0 hm0 hx hm (by omega) (by omega) k)
  | 19, _ =>
    obtain ⟨x, rfl⟩ := hv
    exact LW.jmp (pc' := 724) (st' := []) dL_32 rfl (lop_19 hL hn h0 hnm hx0 hm0 hx hm (by omega) (by omega) k)
  | 20, _ =>
    obtain ⟨x, rfl⟩ := hv
    exact LW.jmp (pc' := 767) (st' := []) dL_32 rfl (lop_20 hL hn h0 hnm hx0 hm0 hx hm (by omega) (by omega) k)
  | 21, _ =>
    obtain ⟨x, rfl⟩ := hv
    exact LW.jmp (pc' := 810) (st' := []) dL_32 rfl (lop_21 hL hn h0 hnm hx0 hm0 hx hm (by omega) (by omega) k)
  | 22, _ =>
    obtain ⟨x, rfl⟩ := hv
    exact LW.jmp (pc' := 833) (st' := []) dL_32 rfl (lop_22 hL hn h0 hnm hx0 hm0 hx hm (by omega) (by omega) k)
  | 23, _ =>
    obtain ⟨x, rfl⟩ := hv
    exact LW.jmp (pc' := 856) (st' := []) dL_32 rfl (lop_23 hL hn h0 hnm hx0 hm0 hx hm (by omega) (by omega) k)
  | 24, _ =>
    obtain ⟨x, rfl⟩ := hv
    exact LW.jmp (pc' := 879) (st' := []) dL_32 rfl (lop_24 hL hn h0 hnm hx0 hm0 hx hm (by omega) (by omega) k)
  | 25, _ =>
    obtain ⟨x, rfl⟩ := hv
    exact LW.jmp (pc' := 912) (st' := []) dL_32 rfl (lop_25 hL hn h0 hnm hx0 hm0 hx hm (by omega) (by omega) k)
  | 26, _ =>
    obtain ⟨x, rfl⟩ := hv
    exact LW.jmp (pc' := 955) (st' := []) dL_32 rfl (lop_26 hL hn h0 hnm hx0 hm0 hx hm (by omega) (by omega) k)
  | 27, _ =>
    obtain ⟨x, rfl⟩ := hv
    exact LW.jmp (pc' := 998) (st' := []) dL_32 rfl (lop_27 hL hn h0 hnm hx0 hm0 hx hm (by omega) (by omega) k)
  | 28, _ =>
    obtain ⟨x, rfl⟩ := hv
    exact LW.jmp (pc' := 1031) (st' := []) dL_32 rfl (lop_28 hL hn h0 hnm hx0 hm0 hx hm (by omega) (by omega) k)
  | n + 29, h => exact absurd h (by omega)
theorem ldef (hL : L ≤ 256) (hn : 4 * t + 4 ≤ L) (ho : 29 ≤ o) (ho2 : o < 32) (hop : xs (4 * t) &&& 31 = nI o) (k : LW L xs nm (t + 1) 18 [] hp c w) : LW L xs nm t 26 [] hp c w := by
  refine LW.sel hL hn hop ?_
  rcases (show o = 29 ∨ o = 30 ∨ o = 31 by omega) with rfl | rfl | rfl
  · exact LW.jmp (pc' := 1054) (st' := []) dL_32 rfl (LW.next k)
  · exact LW.jmp (pc' := 1054) (st' := []) dL_32 rfl (LW.next k)
  · exact LW.jmp (pc' := 1054) (st' := []) dL_32 rfl (LW.next k)
/-- what is left to show of a script: pictures that go through its calls -/
def LInv (L : Nat) (xs : Nat → Int32) (nm : Nat) (Iv : Nat → List mE → Nat → Nat → Prop) : Prop :=
  (∀ t hp c w, Iv t hp c w → c ≤ room_1.cells ∧ w ≤ room_1.slots ∧ nm < hp.length ∧ ∃ fs, hp[0]? = some (.inr (10, fs))) ∧
  (∀ t hp c w, Iv t hp c w → 4 * t + 4 ≤ L → Iv (t + 1) hp c w) ∧
  (∀ t hp c w, Iv t hp c w → 4 * t + 4 ≤ L → ∀ o, o < 29 → xs (4 * t) &&& 31 = nI o → ∃ hp2 c' w', LStep nm o (xs (4 * t + 1)) (xs (4 * t + 2)) (xs (4 * t + 3)) hp hp2 c' w' ∧ Iv (t + 1) hp2 (c + c') (w + w'))
theorem lloop {Iv : Nat → List mE → Nat → Nat → Prop} (hL : L ≤ 256) (hI : LInv L xs nm Iv) : ∀ (n t : Nat) (hp : List mE) (c w : Nat), n + t = 64 → Iv t hp c w → LW L xs nm t 18 [] hp c w := by
  intro n
  induction n with
  | zero =>
    intro t hp c w ht hv
    obtain ⟨h1, h2, h3, fs, h4⟩ := hI.1 t hp c w hv
    exact LW.head hL (by omega) h1 h2 (fun h => absurd h (by omega))
  | succ n ih =>
    intro t hp c w ht hv
    obtain ⟨h1, h2, h3, fs, h4⟩ := hI.1 t hp c w hv
    refine LW.head hL (by omega) h1 h2 (fun hn => ?_)
    obtain ⟨o, ho, hop⟩ := pk_andE (xs (4 * t)) (m := 31) 5 (by decide)
    by_cases h29 : o < 29
    · obtain ⟨hp2, c', w', hs, hv2⟩ := hI.2.2 t hp c w hv hn o h29 hop
      obtain ⟨g1, g2, -⟩ := hI.1 _ _ _ _ hv2
      exact lbody hL hn (Nat.lt_of_le_of_lt (Nat.zero_le _) h3) h3 h4 h29 hop hs g1 g2 (ih (t + 1) hp2 _ _ (by omega) hv2)
    · exact ldef hL hn (by omega) ho hop (ih (t + 1) hp c w (by omega) (hI.2.1 t hp c w hv hn))
end LB
theorem linit_W {p : Program} {l : Launch} {e : Env} {s : State} {m : MethodId} {below : List Frame} {meth : Method} {cd : Code} {b L : Nat} {xs : Nat → Int32} {dC : Nat → ClassId} {dI : Nat → Nat → Nat} {dA : Nat → ClassId} (C0 : lw_At p s m meth cd b L xs) (hK : va_K (dC, dI) mcl (mty dA) s) {ad : Nat → Nat} {H : Heap} {locs : List Loc} {ls : Array Slot} {pc ix k' c w c1 w1 f bb : Nat} {hp hp1 : List mE} {q : mM} {rr : List Value} {Q : State → Prop}
    (hd : decode code pc = .ok (.invokespecial ix, 3)) (hlk : Cond.methodLink R_law ix q.1 ∈ gtbl) (hin : Cond.instanceMethod q.1 ∈ gtbl) (hnm : q.1.name = "<init>") (hret : q.2.2.2.1 = none) (hnp : q.2.2.2.2.2.2.2 = 0) (hq : mtb[k']? = some q) (hrun : exec f 30 k' 0 (lv_args 0 [.ref bb]) [] hp 0 0 = some (none, hp1, c1, w1)) (hcat : (rr.map fun v => v.category).sum ≤ 8) (hlen : (lg_sl [.ref bb]).length ≤ mlen k') (hls : ls.size = 4) (hc : c + c1 ≤ room_1.cells) (hw : w + w1 ≤ room_1.slots)
    (hP : va_P (dC, dI) mcl (mws dA ad hp) H) (hD : va_D (lAs s) (mws dA ad hp)) (hS : va_S (lAs s) s.heap H locs) (hSx : SPx ad (lAs s) s)
    (kk : ∀ (ad' : Nat → Nat) (H1 : Heap) (locs1 : List Loc), mag hp.length ad ad' → hp.length ≤ hp1.length → va_P (dC, dI) mcl (mws dA ad' hp1) H1 → va_D (lAs s) (mws dA ad' hp1) → va_S (lAs s) s.heap H1 locs1 → W p l e room_1 s m #[Value.ref b] below meth cd H1 locs1 (c + c1) (w + w1) Q (F0 m (pc + 3) ls rr)) :
    W p l e room_1 s m #[Value.ref b] below meth cd H locs c w Q (F0 m pc ls (.ref (ad bb) :: rr)) := by
  obtain ⟨hx, hcb, hr, hml, hown, hts, hX, hbl, hlk2, hgv⟩ := id C0
  obtain ⟨k1, k2, k3, k4, k5, k6, k7⟩ := mt_ok hq
  have htg : ∀ x ∈ gtbl, x.before #[Value.ref b] s = true := fun x hx1 => hts x (List.mem_filter.mp hx1).1
  have htn : ∀ x ∈ ntbl, va_Nw x s := fun x hx1 => va_Nw.of (nw_on (nt_is hx1)) (hts x (List.mem_filter.mp hx1).1)
  obtain ⟨-, hsc⟩ := sim l dC dI dA _ _ _ _ _ _ _ _ _ _ _ _ _ hrun
  have hM := met_of hq hsc hlen ad H.size
  have hA1 : ∀ x, va_A (mws dA ad hp) H.size x → lAs s x := by
    intro x hx1
    rcases hx1 with ⟨j, e1, h1⟩ | h1
    · exact hD.2 j _ h1
    · exact Nat.le_trans hS.1 h1
  have hR1 : (mrm 30 c1 w1).frames + 1 ≤ room_1.frames := by show 31 ≤ 2048; omega
  have hR2 : 8 + (q.2.2.1 + 11) + (mrm 30 c1 w1).locals ≤ room_1.locals := by
    show 8 + (q.2.2.1 + 11) + 60 * 30 ≤ 84000
    omega
  have hpre : ∀ U : State, U.heap = H → s.WarmedH U.vm → mPc dC dI dA ad hp [.ref bb] H.size (([Value.ref bb] : List Value).map (mv ad)).toArray U := fun U hU hW => ⟨rfl, by rw [hU], by rw [hU]; exact hP, va_K.moved hW.alike hK, hD.weaken (fun _ _ _ _ => trivial), fun w1 hw1 => nw_warm (nt_is hw1) hW (htn w1 hw1), SPx_call hSx hS hA1 hU hW⟩
  refine callX (rest := rr) (a := (([Value.ref bb] : List Value).map (mv ad)).toArray) (mc := c1) (ms := w1) (n0 := hp.length) (ad := ad) (dC := dC) (dI := dI) (dA := dA) (v := none) (hp1 := hp1) ?_ hS hA1 kk
  rw [hret] at hM k1
  exact va_runI (As := []) (n := 0) ⟨hx, hcb, hml, hown, htg⟩ hM ⟨callB_of 0 htg (gdI k1) rfl rfl rfl (htg _ k2) (htg _ hlk) ⟨k6.1, k6.2, by rw [← hnp]; exact k4⟩ ⟨hR1, hR2⟩, hnm, htg _ hin⟩ ⟨mPc_blind, hpre⟩ rfl rfl hls rfl (lv_room hcat) hd ⟨hc, hw⟩
theorem arr_known {args : Array Value} {s : State} {ty : FieldType} (h : (Cond.arrayClass ty).before args s = true) : ∃ cA, s.vm.findClass ("[" ++ ty.toString) = some cA ∧ ArrOfT s cA ty := by
  obtain ⟨cA, kA, comp, h1, h2, h3⟩ := Cond.arrayClass_spec h
  exact ⟨cA, h1, fun n z => ⟨fun k h => (by cases h), kA, h2, comp, h3⟩⟩
set_option maxRecDepth 100000 in
theorem insA : mcl.all (fun r => decide (Cond.instantiable r.1 r.2.2 ∈ lw_tbl)) = true := by decide +kernel
theorem cls_known {b : Nat} {s : State} (hts : ∀ w ∈ lw_tbl, w.before #[Value.ref b] s = true) : ∀ r ∈ mcl, ∃ (cC : ClassId) (iS : Nat → Nat), u_Kn s r.1 r.2.1 r.2.2 cC iS := by
  intro r hr
  obtain ⟨ci, hci⟩ := List.getElem?_of_mem hr
  have hin := (cl_ok hci).1
  have h2 := List.all_eq_true.mp insA r hr
  exact u_known hts (fun w hw => (List.mem_filter.mp (hin w hw)).1) (hts _ (of_decide_eq_true h2))

