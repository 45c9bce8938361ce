/-! The small machine's cells are the machine's: reads, writes. -/
def mee (dA : Nat → ClassId) (ad : Nat → Nat) (e : mE) : va_E := match e with
  | .inl a => .inl (dA a.1, a.2)
  | .inr o => .inr (o.1, o.2.map (mv ad))
def mws (dA : Nat → ClassId) (ad : Nat → Nat) (hp : List mE) : va_W := hp.mapIdx (fun k e => (ad k, mee dA ad e))
def mty (dA : Nat → ClassId) : List (ClassId × FieldType) := [(dA 0, .int), (dA 1, .long), (dA 2, .boolean)]
theorem mws_get {dA : Nat → ClassId} {ad : Nat → Nat} {hp : List mE} {k : Nat} {e : mE} (h : hp[k]? = some e) : (mws dA ad hp)[k]? = some (ad k, mee dA ad e) := by
  unfold mws
  rw [List.getElem?_mapIdx, h]
  rfl
theorem mws_set (dA : Nat → ClassId) (ad : Nat → Nat) (hp : List mE) (k : Nat) (e : mE) : (mws dA ad hp).set k (ad k, mee dA ad e) = mws dA ad (hp.set k e) := by
  apply List.ext_getElem?
  intro j
  unfold mws
  rw [List.getElem?_set, List.getElem?_mapIdx, List.getElem?_mapIdx, List.getElem?_set, List.length_mapIdx]
  by_cases hj : k = j
  · subst hj
    rw [if_pos rfl, if_pos rfl]
    by_cases hl : k < hp.length
    · rw [if_pos hl, if_pos hl]; rfl
    · rw [if_neg hl, if_neg hl]; rfl
  · rw [if_neg hj, if_neg hj]
theorem mfit_ok {ty : FieldType} {v : Value} {ad : Nat → Nat} (h : mfit ty v = true) : narrow ty (mv ad v) = mv ad v ∧ fits ty (mv ad v) = true := by
  cases ty <;> cases v <;> first | (have h' : false = true := h; cases h'; done) | (exact ⟨rfl, rfl⟩) | skip
  all_goals
    have h1 := of_decide_eq_true (show decide _ = true from h)
    rcases h1 with rfl | rfl <;> exact ⟨rfl, rfl⟩
section MC
variable {p : Program} {l : Launch} {e : Env} {R : Room} {s : State} {m : MethodId} {args : Array Value} {below : List Frame} {meth : Method} {c : Code} {H : Heap} {locs : List Loc} {cells slots : Nat} {Q : State → Prop}
variable {cc : ByteArray} {pc : Nat} {ls : Array Slot} {ad : Nat → Nat} {dC : Nat → ClassId} {dI : Nat → Nat → Nat} {dA : Nat → ClassId} {A : Nat → Prop}
theorem mget_W (hx : p.tables.exec = Jvm.exec) (hb : c.code = cc) (hts : ∀ w ∈ gtbl, w.before args s = true) (hnt : ∀ w ∈ ntbl, va_Nw w s) {k ix : Nat} (hown : s.vm.findClass (cnm (mown k)) = some m.cls) (hK : va_K (dC, dI) mcl (mty dA) s) {st st' : List Value} {hp : List mE} (hP : va_P (dC, dI) mcl (mws dA ad hp) H)
    (h : mget k ix st hp = some st') (hd : decode cc pc = .ok (.getfield ix, 3)) (kk : W p l e R s m args below meth c H locs cells slots Q (F0 m (pc + 3) ls (st'.map (mv ad)))) : W p l e R s m args below meth c H locs cells slots Q (F0 m pc ls (st.map (mv ad))) := by
  unfold mget at h
  split at h
  case h_2 => cases h
  split at h
  case h_2 => cases h
  rename_i a r _ _ nest ci f ps cj fs hf hc
  split at h
  case isFalse => cases h
  rename_i hij
  subst hij
  obtain ⟨v, hv, he⟩ := Option.map_eq_some_iff.mp h
  cases he
  obtain ⟨q, q1, q2, q3, q4, q5⟩ := fl_ok hf
  have hw := mws_get (dA := dA) (ad := ad) hc
  have hv' : (fs.map (mv ad))[f]? = some (mv ad v) := by rw [List.getElem?_map, hv]; rfl
  cases nest with
  | false => exact va_get (ref := q.1) hx hb hts (cl_ok q1).1 hown hK hP a hw q1 f q2 (hts _ (q4 rfl)) (fun x hx9 => by rw [q3] at hx9; exact hx9) hv' hd kk
  | true => exact va_getN (ref := q.1) (host := "MirrorRoots") hx hb hts (cl_ok q1).1 hown hK hP a hw q1 f q2 (va_Nw.use rfl (hnt _ (q5 rfl))) (fun x hx9 => by rw [q3] at hx9; exact hx9) hv' hd kk
theorem mput_W (hx : p.tables.exec = Jvm.exec) (hb : c.code = cc) (hts : ∀ w ∈ gtbl, w.before args s = true) (hnt : ∀ w ∈ ntbl, va_Nw w s) {k ix : Nat} (hown : s.vm.findClass (cnm (mown k)) = some m.cls) (hin : mini k = true → meth.name = "<init>") (hK : va_K (dC, dI) mcl (mty dA) s) {st st' : List Value} {hp hp' : List mE} (hP : va_P (dC, dI) mcl (mws dA ad hp) H) (hD : va_D A (mws dA ad hp)) (hS : va_S A s.heap H locs)
    (h : mput k ix st hp = some (st', hp')) (hd : decode cc pc = .ok (.putfield ix, 3)) (kk : ∀ (H1 : Heap) (locs1 : List Loc), va_P (dC, dI) mcl (mws dA ad hp') H1 → va_D A (mws dA ad hp') → va_S A s.heap H1 locs1 → W p l e R s m args below meth c H1 locs1 cells slots Q (F0 m (pc + 3) ls (st'.map (mv ad)))) : W p l e R s m args below meth c H locs cells slots Q (F0 m pc ls (st.map (mv ad))) := by
  unfold mput at h
  split at h
  case h_2 => cases h
  split at h
  case h_2 => cases h
  rename_i v a r _ _ nest ci f ps cj fs hf hc
  split at h
  case h_2 => cases h
  rename_i ty hty
  split at h
  case isFalse => cases h
  rename_i hij
  obtain ⟨rfl, hfl, hfit, hfin⟩ := hij
  cases h
  obtain ⟨q, q1, q2, q3, q4, q5⟩ := fl_ok hf
  obtain ⟨c1, c2, c3⟩ := cl_ok q1
  have hw := mws_get (dA := dA) (ad := ad) hc
  have hty' : parseFieldDescriptor (q.2.1 f).2.2.1 = some ty := by
    unfold mfty at hty
    rw [q1] at hty
    exact hty
  have hl : f < (fs.map (mv ad)).length := by rw [List.length_map]; exact hfl
  have hset : (mws dA ad hp).set a (ad a, .inr (ci, (fs.map (mv ad)).set f (mv ad v))) = mws dA ad (hp.set a (.inr (ci, fs.set f v))) := by
    rw [← mws_set]
    show _ = (mws dA ad hp).set a (ad a, .inr (ci, (fs.set f v).map (mv ad)))
    rw [List.map_set]
  have kk' : ∀ (H1 : Heap) (locs1 : List Loc), va_P (dC, dI) mcl ((mws dA ad hp).set a (ad a, .inr (ci, (fs.map (mv ad)).set f (mv ad v)))) H1 → va_D A ((mws dA ad hp).set a (ad a, .inr (ci, (fs.map (mv ad)).set f (mv ad v)))) → va_S A s.heap H1 locs1 → W p l e R s m args below meth c H1 locs1 cells slots Q (F0 m (pc + 3) ls (st'.map (mv ad))) := by
    intro H1 locs1 h1 h2 h3
    rw [hset] at h1 h2
    exact kk H1 locs1 h1 h2 h3
  have hfe : mfin ci f = (q.2.1 f).2.2.2 := by unfold mfin; rw [q1]
  cases hff : (q.2.1 f).2.2.2 with
  | true =>
    obtain ⟨rfl, hk2, hk3⟩ := hfin (by rw [hfe]; exact hff)
    refine va_putF (ref := q.1) hx hb hts c1 (mty0 q.2.1) c3 c2 hown hK hP hD hS a hw q1 f q2 (hts _ (q4 rfl)) (fun x hx9 => by rw [q3] at hx9; exact hx9) hff (hin hk2) ?_ hty' (mfit_ok hfit).1 (mfit_ok hfit).2 hl hd kk'
    rw [q3, ← hk3]
    unfold cnm
    rw [q1]
  | false =>
    cases nest with
    | false => exact va_put (ref := q.1) hx hb hts c1 (mty0 q.2.1) c3 c2 hown hK hP hD hS a hw q1 f q2 (hts _ (q4 rfl)) (fun x hx9 => by rw [q3] at hx9; exact hx9) hff hty' (mfit_ok hfit).1 (mfit_ok hfit).2 hl hd kk'
    | true => exact va_putN (ref := q.1) (host := "MirrorRoots") hx hb hts c1 (mty0 q.2.1) c3 c2 hown hK hP hD hS a hw q1 f q2 (va_Nw.use rfl (hnt _ (q5 rfl))) (fun x hx9 => by rw [q3] at hx9; exact hx9) hff hty' (mfit_ok hfit).1 (mfit_ok hfit).2 hl hd kk'
end MC
