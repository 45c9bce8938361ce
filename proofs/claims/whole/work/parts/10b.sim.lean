def mPc (dC : Nat → ClassId) (dI : Nat → Nat → Nat) (dA : Nat → ClassId) (ad : Nat → Nat) (hp : List mE) (as : List Value) (sz : Nat) : Array Value → State → Prop :=
  va_Pc (as.map (mv ad)) (fun U => U.heap.size = sz ∧ va_P (dC, dI) mcl (mws dA ad hp) U.heap ∧ va_K (dC, dI) mcl (mty dA) U ∧ va_D (fun _ => True) (mws dA ad hp) ∧ (∀ w ∈ ntbl, va_Nw w U) ∧ SPx ad (va_A (mws dA ad hp) sz) U)
def mQc (dC : Nat → ClassId) (dI : Nat → Nat → Nat) (dA : Nat → ClassId) (n0 : Nat) (ad0 : Nat → Nat) (A : Nat → Prop) (r : Option Value) (hp' : List mE) : Array Value → State → Outcome → State → Prop :=
  fun _ st oc t => (∃ ad' : Nat → Nat, mag n0 ad0 ad' ∧ oc = .returned (r.map (mv ad')) ∧ va_P (dC, dI) mcl (mws dA ad' hp') t.heap ∧ va_D A (mws dA ad' hp') ∧ n0 ≤ hp'.length) ∧ va_F A st t
def mCx (p : Program) (R : Room) (s : State) (m : MethodId) (args : Array Value) (meth : Method) (c : Code) (k d : Nat) (q : mM) (dC : Nat → ClassId) (dI : Nat → Nat → Nat) (dA : Nat → ClassId) : Prop :=
  p.tables.exec = Jvm.exec ∧ mtb[k]? = some q ∧ c.code = q.2.1 ∧ meth.sig.returnType = q.2.2.2.1 ∧ c.maxLocals = q.2.2.1 ∧ s.vm.findClass (cnm (mown k)) = some m.cls ∧ (∀ w ∈ gtbl, w.before args s = true) ∧ (∀ w ∈ ntbl, va_Nw w s) ∧ meth.locks = false ∧ (mini k = true → meth.name = "<init>") ∧ va_K (dC, dI) mcl (mty dA) s ∧ d ≤ R.frames ∧ 60 * d ≤ R.locals
theorem mPc_blind {dC : Nat → ClassId} {dI : Nat → Nat → Nat} {dA : Nat → ClassId} {ad : Nat → Nat} {hp : List mE} {as : List Value} {sz : Nat} : FrameBlind (mPc dC dI dA ad hp as sz) := by
  intro a U g mk h
  obtain ⟨h0, h1, h2, h3, h4, h5, h6⟩ := h
  exact ⟨h0, h1, h2, va_K.moved (u := U) (U := U.calling g mk a) (Vm.Alike.refl U.vm) h3, h4, fun w hw => va_Nw.same (u := U) (U := U.calling g mk a) (nw_on (nt_is hw)) rfl (h5 w hw), SPx_same (s := U) (U := U.calling g mk a) h6 rfl rfl⟩
section MX
variable {p : Program} {l : Launch} {e : Env} {R : Room} {s : State} {m : MethodId} {args : Array Value} {below : List Frame} {meth : Method} {c : Code} {H : Heap} {locs : List Loc} {cells slots mc ms : Nat} {Q : State → Prop}
variable {pc : Nat} {ls : Array Slot} {ad : Nat → Nat} {dC : Nat → ClassId} {dI : Nat → Nat → Nat} {dA : Nat → ClassId} {A0 A1 : Nat → Prop} {st0 rest : List Value} {n0 : Nat} {v : Option Value} {hp1 : List mE} {a : Array Value}
theorem callX (hr : va_Run p l e R s m args below meth c H locs cells slots mc ms (F0 m pc ls st0) rest (mQc dC dI dA n0 ad A1 v hp1 a) A1) (hS : va_S A0 s.heap H locs) (hA1 : ∀ q, A1 q → A0 q)
    (kk : ∀ (ad' : Nat → Nat) (H1 : Heap) (locs1 : List Loc), mag n0 ad ad' → n0 ≤ hp1.length → va_P (dC, dI) mcl (mws dA ad' hp1) H1 → va_D A0 (mws dA ad' hp1) → va_S A0 s.heap H1 locs1 → W p l e R s m args below meth c H1 locs1 (cells + mc) (slots + ms) Q (F0 m (pc + 3) ls ((v.map (mv ad')).toList ++ rest))) : W p l e R s m args below meth c H locs cells slots Q (F0 m pc ls st0) := by
  intro T hT X
  obtain ⟨v1, st₀, t, T', L, h0, X', hL, e1, e2, ⟨⟨ad', g1, g2, g3, g4, g5⟩, hz, hk⟩, st⟩ := hr T hT X
  cases g2
  rw [h0] at hz hk
  obtain ⟨t2, a1, b1⟩ := kk ad' T'.heap (locs ++ L) g1 g5 (by rw [e1]; exact g3) (g4.weaken (fun _ _ _ h => hA1 _ h))
    ⟨Nat.le_trans hS.1 (by rw [e1]; exact hz), fun q h1 h2 => by rw [e1, hk q (Nat.lt_of_lt_of_le h1 hS.1) (fun z => h2 (hA1 q z))]; exact hS.2.1 q h1 h2, fun q hq => by
      rcases List.mem_append.mp hq with h | h
      · exact hS.2.2 q h
      · exact hA1 _ (hL q h)⟩ T' rfl X'
  exact ⟨t2, st t2 a1, b1⟩
end MX
/-- what a run of the small machine says of the machine -/
def mSim (l : Launch) (dC : Nat → ClassId) (dI : Nat → Nat → Nat) (dA : Nat → ClassId) (d k pc : Nat) (lv : List (Nat × Value)) (st : List Value) (hp : List mE) (c w : Nat) (r : Option Value) (hp' : List mE) (c' w' : Nat) : Prop :=
  ∀ (p : Program) (e : Env) (R : Room) (s : State) (m : MethodId) (args : Array Value) (below : List Frame) (meth : Method) (cd : Code) (q : mM), mCx p R s m args meth cd k d q dC dI dA → c' ≤ R.cells → w' ≤ R.slots →
    ∀ (n0 : Nat) (ad0 ad : Nat → Nat) (A : Nat → Prop) (H : Heap) (locs : List Loc) (ls : Array Slot), n0 ≤ hp.length → mag n0 ad0 ad → va_P (dC, dI) mcl (mws dA ad hp) H → va_D A (mws dA ad hp) → va_S A s.heap H locs → (∀ q, s.heap.size ≤ q → A q) → lv_has ls (mlen k) (mlv ad lv) → SPx ad A s →
      W p l e R s m args below meth cd H locs c w (MQ below (mQc dC dI dA n0 ad0 A r hp') args s c' w' A) (F0 m pc ls (st.map (mv ad)))
theorem mag_tr {n n1 : Nat} {a b c : Nat → Nat} (h1 : mag n a b) (h2 : mag n1 b c) (hn : n ≤ n1) : mag n a c := fun k hk => (h2 k (by omega)).trans (h1 k hk)
/-- the contract of a method out of a run -/
theorem met_of {l : Launch} {dC : Nat → ClassId} {dI : Nat → Nat → Nat} {dA : Nat → ClassId} {d k : Nat} {as : List Value} {hp : List mE} {r : Option Value} {hp' : List mE} {c' w' : Nat} {q : mM} (hq : mtb[k]? = some q) (hs : mSim l dC dI dA d k 0 (lv_args 0 as) [] hp 0 0 r hp' c' w') (hlen : (lg_sl as).length ≤ mlen k) (ad : Nat → Nat) (sz : Nat) :
    Met l q.1 (Cond.code q.1 q.2.1 q.2.2.1 q.2.2.2.1 :: gtbl) (mrm d c' w') (mPc dC dI dA ad hp as sz) (mQc dC dI dA hp.length ad (va_A (mws dA ad hp) sz) r hp') c' w' (va_A (mws dA ad hp) sz) := by
  obtain ⟨k1, k2, k3, k4, k5, k6, k7⟩ := mt_ok hq
  have hmL : mlen k = q.2.2.1 := by unfold mlen; rw [hq]
  refine Met.ofW (cc := q.2.1) (maxL := q.2.2.1) (ret := q.2.2.2.1) k5 rfl ?_
  intro p e s m args below meth c s₁ B hml hv
  obtain ⟨rfl, hsz, hP, hK, hD0, hN, hSx⟩ := hv
  have hts := atoms_spec (ws := Cond.code q.1 q.2.1 q.2.2.1 q.2.2.2.1 :: gtbl) B.pre
  have hown : s.vm.findClass q.1.cls = some m.cls := findClass_of_methodNamed B.named
  subst hsz
  have hD := hD0.self (sz := s.heap.size)
  have hl := lv_entry (as.map (mv ad)) (n := q.2.2.1) (by rw [lg_len, ← hmL]; exact hlen)
  rw [lg_entry_eq]
  generalize (lg_sl (as.map (mv ad)) ++ List.replicate (q.2.2.1 - (lg_sl (as.map (mv ad))).length) Slot.unset).toArray = ls at hl ⊢
  rw [lg_args, ← hmL] at hl
  refine hs p e _ s m _ below meth c q ⟨B.exec, hq, B.bytes, B.returns, hml, by rw [← k3]; exact hown, fun w hw => hts w (List.mem_cons_of_mem _ hw), hN, B.notSynchronized, fun hi => ?_, hK, Nat.le_refl d, Nat.le_refl (60 * d)⟩ (Nat.le_refl c') (Nat.le_refl w') hp.length ad ad _ s.heap [] ls (Nat.le_refl _) (fun _ _ => rfl) hP hD va_S.rf (fun q h => Or.inr h) hl hSx
  have h1 := (name_of_methodNamed B.named B.method).1
  unfold mini at hi
  rw [hq] at hi
  rw [h1]
  exact eq_of_beq hi
