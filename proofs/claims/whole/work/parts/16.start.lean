/-! The law from its entry: what is left is LGood, of the small machine alone. -/
/-- both objects made, and pictures that go through the calls of this script -/
def LGood (L : Nat) (xs : Nat → Int32) : Prop :=
  ∃ (nm : Nat) (Iv : Nat → List mE → Nat → Nat → Prop) (fx fm : List Value) (f g : Nat) (hp1 hp2 : List mE) (c1 w1 c2 w2 : Nat), mdef 10 = some fx ∧ exec f 30 103 0 (lv_args 0 [.ref 0]) [] [.inr (10, fx)] 0 0 = some (none, hp1, c1, w1) ∧ hp1.all (moke hp1.length) = true ∧ hp1.length = nm ∧ nm < 1000000 ∧ 0 < nm ∧
    mdef 11 = some fm ∧ exec g 30 136 0 (lv_args 0 [.ref nm]) [] (hp1 ++ [.inr (11, fm)]) 0 0 = some (none, hp2, c2, w2) ∧ Iv 0 hp2 (0 + 1 + c1 + 1 + c2) (0 + 11 + w1 + 41 + w2) ∧ LInv L xs nm Iv
theorem mw_103 : ∃ q : mM, mtb[103]? = some q ∧ q.1 = mY103 ∧ q.2.2.2.1 = none ∧ q.2.2.2.2.2.2.2 = 0 := ⟨_, rfl, rfl, rfl, rfl⟩
theorem mw_136 : ∃ q : mM, mtb[136]? = some q ∧ q.1 = mY136 ∧ q.2.2.2.1 = none ∧ q.2.2.2.2.2.2.2 = 0 := ⟨_, rfl, rfl, rfl, rfl⟩
def stm (i : Nat) : Term := if i = 0 then .string "MirrorRoots$Telling" 58 else .string "MirrorRoots$Telling" 82
set_option maxRecDepth 100000 in
theorem stW : wat 407 = some (Cond.stringRef "MirrorRoots$Telling" 58 "mirrors") ∧ wat 480 = some (Cond.stringRef "MirrorRoots$Telling" 82 "never") ∧ wat 421 = some (Cond.laysStatic "java/lang/String" "COMPACT_STRINGS" "Z") ∧ wat 437 = some (Cond.laysStatic "jdk/internal/util/Preconditions" "SIOOBE_FORMATTER" "Ljava/util/function/BiFunction;") := by decide +kernel
set_option maxRecDepth 100000 in
theorem sp_start {p : Program} {s : State} {m : MethodId} {meth : Method} {c : Code} {b L : Nat} {xs : Nat → Int32} (C0 : lw_At p s m meth c b L xs) : ∃ ad0 : Nat → Nat, ad0 1000000 = b ∧ SPx ad0 (lAs s) s := by
  obtain ⟨hx, hb, hr, hml, hown, hts, hX, hbl, hlocks, hgv⟩ := id C0
  have hs := flat_of_before _ hgv
  have hA : ∀ a : Nat, a < s.heap.size → ¬ lAs s a := fun a h => Nat.not_le.mpr h
  have h2 : ∀ i : Nat, i < 2 → i = 0 ∨ i = 1 := fun i h => by omega
  obtain ⟨adK, adV, hSt, hev⟩ := vk_Sof (args := #[Value.ref b]) (s := s) (N := 2) (tm := stm) (len := sLen) (byt := sByt) (A := lAs s)
    (fun i hi => by rcases h2 i hi with rfl | rfl <;> decide)
    (fun i hi => by rcases h2 i hi with rfl | rfl <;> exact hs _ (by decide +kernel))
    (fun i hi => by rcases h2 i hi with rfl | rfl <;> exact hs _ (by decide +kernel))
    (fun i hi => by rcases h2 i hi with rfl | rfl <;> exact hs _ (by decide +kernel))
    (fun i hi => by rcases h2 i hi with rfl | rfl <;> exact hs _ (by decide +kernel))
    (fun i hi j hj => by
      rcases h2 i hi with rfl | rfl
      · have hj7 : j < 7 := hj
        rcases (show j = 0 ∨ j = 1 ∨ j = 2 ∨ j = 3 ∨ j = 4 ∨ j = 5 ∨ j = 6 by omega) with rfl | rfl | rfl | rfl | rfl | rfl | rfl <;> exact hs _ (by decide +kernel)
      · have hj5 : j < 5 := hj
        rcases (show j = 0 ∨ j = 1 ∨ j = 2 ∨ j = 3 ∨ j = 4 by omega) with rfl | rfl | rfl | rfl | rfl <;> exact hs _ (by decide +kernel))
    (fun i j hi hj hij => by
      rcases h2 i hi with rfl | rfl <;> rcases h2 j hj with rfl | rfl
      · exact absurd rfl hij
      · first | exact Or.inl (hs _ (by decide +kernel)) | exact Or.inr (hs _ (by decide +kernel))
      · first | exact Or.inl (hs _ (by decide +kernel)) | exact Or.inr (hs _ (by decide +kernel))
      · exact absurd rfl hij)
    hA
  have hZ : va_Z "java/lang/String" "COMPACT_STRINGS" "Z" (.int 1) (lAs s) s s.heap := va_Zof (hts _ (wat_in stW.2.2.1)) (hts _ (wat_in jn_0)) (va_eqi (hs _ (by decide +kernel))) hA
  have hR : (Cond.isRef (.static "jdk/internal/util/Preconditions" "SIOOBE_FORMATTER" "Ljava/util/function/BiFunction;")).before #[Value.ref b] s = true := hs _ (by decide +kernel)
  obtain ⟨v, hv, hvr⟩ := Cond.isRef_spec hR
  have hZ2 : va_Z "jdk/internal/util/Preconditions" "SIOOBE_FORMATTER" "Ljava/util/function/BiFunction;" v (lAs s) s s.heap := va_Zof (hts _ (wat_in stW.2.2.2)) (hts _ (wat_in jn_3)) hv hA
  have hv2 : v = .null ∨ ∃ a, v = .ref a := by
    cases v <;> first | exact Or.inl rfl | exact Or.inr ⟨_, rfl⟩ | (exact absurd hvr (by simp [Value.isRef]))
  refine ⟨fun k => if k = 1000000 then b else if k < 1000003 then adK (k - 1000001) else adV (k - 1000003), rfl, ?_⟩
  have e1 : ∀ i, i < 2 → (fun i => (fun k => if k = 1000000 then b else if k < 1000003 then adK (k - 1000001) else adV (k - 1000003)) (1000001 + i)) i = adK i := by
    intro i hi
    rcases h2 i hi with rfl | rfl <;> rfl
  have e2 : ∀ i, i < 2 → (fun i => (fun k => if k = 1000000 then b else if k < 1000003 then adK (k - 1000001) else adV (k - 1000003)) (1000003 + i)) i = adV i := by
    intro i hi
    rcases h2 i hi with rfl | rfl <;> rfl
  have hSt2 : ∀ (K V : Nat → Nat), (∀ i, i < 2 → K i = adK i) → (∀ i, i < 2 → V i = adV i) → vk_S 2 sLen sByt K V (lAs s) s s.heap := by
    intro K V hK1 hV1
    refine ⟨fun i hi => ?_, fun i j hi hj hij => ?_⟩
    · rw [hK1 i hi, hV1 i hi]
      exact hSt.1 i hi
    · rw [hK1 i hi, hK1 j hj] at hij
      exact hSt.2 i j hi hj hij
  refine ⟨⟨hSt2 _ _ e1 e2, hZ, v, hv2, hZ2⟩, ?_, ?_⟩
  · exact vk_R.of (A := #[Value.ref b]) (hts _ (wat_in stW.1)) (hev 0 (by omega))
  · exact vk_R.of (A := #[Value.ref b]) (hts _ (wat_in stW.2.1)) (hev 1 (by omega))
set_option maxHeartbeats 4000000 in
theorem whole_start_of {p : Program} {e : Env} {s : State} {m : MethodId} {below : List Frame} {meth : Method} {c : Code} (l : Launch) {b L : Nat} {xs : Nat → Int32} (hg : LGood L xs) (hL : L ≤ 256) (C0 : lw_At p s m meth c b L xs) : W p l e room_1 s m #[Value.ref b] below meth c s.heap [] 0 0 (lw_Z below #[Value.ref b] s) (entryFrame m ([Value.ref b] : List Value).toArray 4) := by
  obtain ⟨hx, hb, hr, hml, hown, hts, hX, hbl, hlocks, hgv⟩ := id C0
  obtain ⟨nm, Iv, fx, fm, f, g, hp1, hp2, c1, w1, c2, w2, hfx, hrx, hok1, hln, hnm6, hnm0, hfm, hrm, hI0, hI⟩ := hg
  have hcw := hI.1 _ _ _ _ hI0
  have hA : ∀ q : Nat, s.heap.size ≤ q → lAs s q := fun _ h => h
  have htg : ∀ x ∈ gtbl, x.before #[Value.ref b] s = true := fun x hx1 => hts x (List.mem_filter.mp hx1).1
  obtain ⟨aI, hI1, hI2⟩ := arr_known (htg _ arI)
  obtain ⟨aJ, hJ1, hJ2⟩ := arr_known (htg _ arJ)
  obtain ⟨aZ, hZ1, hZ2⟩ := arr_known (htg _ arZ)
  obtain ⟨dA, eI, eJ, eZ⟩ : ∃ dA : Nat → ClassId, dA 0 = aI ∧ dA 1 = aJ ∧ dA 2 = aZ := ⟨fun k => if k = 0 then aI else if k = 1 then aJ else aZ, rfl, rfl, rfl⟩
  subst eI; subst eJ; subst eZ
  obtain ⟨dC, dI, hKc⟩ : ∃ (dC : Nat → ClassId) (dI : Nat → Nat → Nat), ∀ (k : Nat) (q : vw_C), mcl[k]? = some q → u_Kn s q.1 q.2.1 q.2.2 (dC k) (dI k) := by
    have hk := cls_known hts
    have h2 : ∀ k : Nat, ∃ z : ClassId × (Nat → Nat), ∀ q : vw_C, mcl[k]? = some q → u_Kn s q.1 q.2.1 q.2.2 z.1 z.2 := by
      intro k
      cases hq : mcl[k]? with
      | none => exact ⟨(0, fun _ => 0), fun q h => by cases h⟩
      | some r =>
        obtain ⟨cC, iS, h3⟩ := hk r (List.mem_of_getElem? hq)
        exact ⟨(cC, iS), fun q h => by cases h; exact h3⟩
    exact ⟨fun k => (Classical.choose (h2 k)).1, fun k => (Classical.choose (h2 k)).2, fun k => Classical.choose_spec (h2 k)⟩
  have hK : va_K (dC, dI) mcl (mty dA) s := by
    refine ⟨hKc, fun k q hq => ?_⟩
    match k, hq with
    | 0, hq => cases hq; exact ⟨hI2, hI1⟩
    | 1, hq => cases hq; exact ⟨hJ2, hJ1⟩
    | 2, hq => cases hq; exact ⟨hZ2, hZ1⟩
    | n + 3, hq => exact absurd (List.getElem?_eq_some_iff.mp hq).1 (by simp [mty])
  have hS : va_S (lAs s) s.heap s.heap [] := va_S.rf
  have hP : va_P (dC, dI) mcl [] s.heap := fun k q h => by simp at h
  have hD : va_D (lAs s) [] := ⟨fun i j p q h => by simp at h, fun k q h => by simp at h⟩
  have hl := lv_entry ([.ref b]) (n := 4) (Nat.le_of_ble_eq_true rfl)
  rw [lg_entry_eq]
  generalize (lg_sl ([.ref b]) ++ List.replicate (4 - (lg_sl ([.ref b])).length) Slot.unset).toArray = ls at hl ⊢
  have hl : lv_has ls 4 [(0, .ref b)] := hl
  have r10 : mcl[10]? = some (cN10, cT10, 11) := rfl
  have r11 : mcl[11]? = some (cN11, cT11, 41) := rfl
  obtain ⟨f1, f2, f3⟩ := mdef_ok r10 hfx
  obtain ⟨m1, m2, m3⟩ := mdef_ok r11 hfm
  obtain ⟨q1, hq1, hq1n, hq1r, hq1p⟩ := mw_103
  obtain ⟨q2, hq2, hq2n, hq2r, hq2p⟩ := mw_136
  obtain ⟨ad0, had0, hSx0⟩ : ∃ ad0 : Nat → Nat, ad0 1000000 = b ∧ SPx ad0 (lAs s) s := sp_start C0
  refine va_new (ci := 10) (fs := fx) (C := cN10) (T := cT10) (N := 11) hx hb htg (cl_ok r10).1 (mty0 cT10) (cl_ok r10).2.2 hown (hts _ (wat_in lnA.1.1)) (hts _ (wat_in lnA.1.2.1)) (hts _ (wat_in lnA.1.2.2)) hK hP hD hS hA r10 f3 (Nat.le_of_ble_eq_true rfl) (Nat.le_of_ble_eq_true rfl) dL_0 (fun a H hP hD hS => ?_)
  have e1 : ([] : va_W) ++ [(a, Sum.inr (10, fx))] = mws dA (mup ad0 0 a) [.inr (10, fx)] := by
    show _ = [(mup ad0 0 a 0, Sum.inr (10, fx.map (mv (mup ad0 0 a))))]
    rw [f2, mup_eq]
    rfl
  rw [e1] at hP hD
  refine lv_dup hx hb dL_3 rfl ?_
  refine W.eq (g2 := F0 m 4 ls (.ref (mup ad0 0 a 0) :: [.ref a])) (by rw [mup_eq]) ?_
  refine linit_W C0 hK dL_4 (by rw [hq1n]; exact in_g (wat_in lnA.2.2.1.1) rfl) (by rw [hq1n]; exact in_g (wat_in lnA.2.2.1.2) rfl) (by rw [hq1n]; rfl) hq1r hq1p hq1 hrx (Nat.le_of_ble_eq_true rfl) (Nat.le_of_ble_eq_true rfl) hl.1 (by omega) (by omega) hP hD hS (SPx_eq (fun k hk => mup_ne (by omega)) hSx0) (fun ad H locs hag hlen hP hD hS => ?_)
  have ea : ad 0 = a := (hag 0 (by simp)).trans mup_eq
  have eb : ad 1000000 = b := ((hag 1000000 (by omega)).trans (mup_ne (by omega))).trans had0
  have hSx1 : SPx ad (lAs s) s := SPx_mag hag (SPx_eq (fun k hk => mup_ne (by omega)) hSx0)
  refine lv_astore_n (lv' := [(1, .ref a), (0, .ref b)]) hx hb dL_7 rfl hl (by decide) rfl (fun ls hl => ?_)
  refine va_new (ci := 11) (fs := fm) (C := cN11) (T := cT11) (N := 41) hx hb htg (cl_ok r11).1 (mty0 cT11) (cl_ok r11).2.2 hown (hts _ (wat_in lnA.2.1.1)) (hts _ (wat_in lnA.2.1.2.1)) (hts _ (wat_in lnA.2.1.2.2)) hK hP hD hS hA r11 m3 (show 0 + 1 + c1 + 1 ≤ room_1.cells by omega) (show 0 + 11 + w1 + 41 ≤ room_1.slots by omega) dL_8 (fun a2 H hP hD hS => ?_)
  have e2 : mws dA ad hp1 ++ [(a2, Sum.inr (11, fm))] = mws dA (mup ad hp1.length a2) (hp1 ++ [.inr (11, fm)]) := by
    rw [mws_push hok1 (by omega)]
    show _ = mws dA ad hp1 ++ [(a2, Sum.inr (11, fm.map (mv (mup ad hp1.length a2))))]
    rw [m2]
  rw [e2] at hP hD
  refine lv_dup hx hb dL_11 rfl ?_
  refine W.eq (g2 := F0 m 12 ls (.ref (mup ad hp1.length a2 nm) :: [.ref a2])) (by rw [← hln, mup_eq]) ?_
  refine linit_W C0 hK dL_12 (by rw [hq2n]; exact in_g (wat_in lnA.2.2.2.1.1) rfl) (by rw [hq2n]; exact in_g (wat_in lnA.2.2.2.1.2) rfl) (by rw [hq2n]; rfl) hq2r hq2p hq2 hrm (Nat.le_of_ble_eq_true rfl) (Nat.le_of_ble_eq_true rfl) hl.1 (by omega) (by omega) hP hD hS (SPx_eq (fun k hk => mup_ne (by omega)) hSx1) (fun ad2 H locs hag2 hlen2 hP hD hS => ?_)
  have ea2 : ad2 0 = a := ((hag2 0 (by simp)).trans (mup_ne (by omega))).trans ea
  have eb2 : ad2 1000000 = b := ((hag2 1000000 (by omega)).trans (mup_ne (by omega))).trans eb
  have em2 : ad2 nm = a2 := (hag2 nm (by simp [hln])).trans (by rw [← hln]; exact mup_eq)
  refine lv_astore_n (lv' := [(2, .ref a2), (1, .ref a), (0, .ref b)]) hx hb dL_15 rfl hl (by decide) rfl (fun ls hl => ?_)
  refine lv_iconst (v := 0) hx hb dL_16 (by decide) ?_
  refine lv_istore_n (lv' := [(3, .int 0), (2, .ref a2), (1, .ref a), (0, .ref b)]) hx hb dL_17 rfl hl (by decide) rfl (fun ls hl => ?_)
  refine lloop hL hI 64 0 hp2 _ _ rfl hI0 p l e s m below meth c b dC dI dA C0 hK ad2 H locs ls eb2 hP hD hS ?_ (SPx_mag hag2 (SPx_eq (fun k hk => mup_ne (by omega)) hSx1))
  have e3 : mlv ad2 (lvL nm 0) = [(0, .ref b), (1, .ref a), (2, .ref a2), (3, .int 0)] := by
    show [(0, Value.ref (ad2 1000000)), (1, .ref (ad2 0)), (2, .ref (ad2 nm)), (3, .int (nI 0))] = _
    rw [eb2, ea2, em2]
    rfl
  rw [e3]
  exact lv_sub hl [3, 2, 1, 0] rfl
