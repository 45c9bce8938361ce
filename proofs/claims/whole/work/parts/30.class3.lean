/-! MirrorRoots$Shelf.<init> -/
def m59_0 (F : Nat) (v0 : Nat) (v1 : Nat) (v2 : Int32) (hp : List mE) : Option (Unit × List mE) :=
  (pfv 6 2 hp v0 (.int 0)).bind fun hp1 =>
  (pfv 6 0 hp1 v0 (.ref v1)).bind fun hp2 =>
  (pfv 6 1 hp2 v0 (.int v2)).bind fun hp3 =>
  (nwJ hp3 (v2 * 5)).bind fun hp4 =>
  (pfv 6 3 hp4 v0 (.ref hp3.length)).bind fun hp6 =>
  (nwI hp6 v2).bind fun hp7 =>
  (pfv 6 4 hp7 v0 (.ref hp6.length)).bind fun hp9 =>
  (nwI hp9 (v2 * 2)).bind fun hp10 =>
  (pfv 6 5 hp10 v0 (.ref hp9.length)).bind fun hp12 =>
  (nwI hp12 v2).bind fun hp13 =>
  (pfv 6 6 hp13 v0 (.ref hp12.length)).bind fun hp15 =>
  some ((), hp15)
theorem t59_0 {d n : Nat} (hd : 1 ≤ d) (F : Nat) : ∀ (v0 : Nat) (v1 : Nat) (v2 : Int32) (lv : List (Nat × Value)) (hp : List mE) (v : Unit) (hp' : List mE), alk 0 lv = some (.ref v0) → alk 1 lv = some (.ref v1) → alk 2 lv = some (.int v2) → lvk n lv → hp.length = n → v0 < n → v1 < n → m59_0 F v0 v1 v2 hp = some (v, hp') → Ra d 59 0 lv [] hp (none) hp' := by
  obtain ⟨d', rfl⟩ : ∃ d', d = d' + 1 := ⟨d - 1, by omega⟩
  intro v0 v1 v2 lv hp v hp' l0 l1 l2 ok hn r_v0 r_v1 h
  unfold m59_0 at h
  refine Ra.of (fun c w r g => Rn.aload_n n59_0 l0 g) ?_
  refine Ra.of (fun c w r g => Rn.oi n59_1 mo59 mm6_3 (Nat.le_of_ble_eq_true rfl) rfl g) ?_
  refine Ra.of (fun c w r g => Rn.aload_n n59_4 l0 g) ?_
  refine Ra.of (fun c w r g => Rn.ic (v := 0) n59_5 (by decide) g) ?_
  obtain ⟨hp1, hhp1, h⟩ := Option.bind_eq_some_iff.mp h
  refine Ra.of (fun c w r g => Rn.pf n59_6 mo59 fl6_9 ft6_2 rfl ff6_2 (fun _ _ hh => by cases hh) hhp1 g) ?_
  have hn := (pfv_len hhp1).trans hn
  refine Ra.of (fun c w r g => Rn.aload_n n59_9 l0 g) ?_
  refine Ra.of (fun c w r g => Rn.aload_n n59_10 l1 g) ?_
  obtain ⟨hp2, hhp2, h⟩ := Option.bind_eq_some_iff.mp h
  refine Ra.of (fun c w r g => Rn.pfF n59_11 mo59 fl6_15 ft6_0 rfl mi59 rfl hhp2 g) ?_
  have hn := (pfv_len hhp2).trans hn
  refine Ra.of (fun c w r g => Rn.aload_n n59_14 l0 g) ?_
  refine Ra.of (fun c w r g => Rn.iload_n n59_15 l2 g) ?_
  obtain ⟨hp3, hhp3, h⟩ := Option.bind_eq_some_iff.mp h
  refine Ra.of (fun c w r g => Rn.pfF n59_16 mo59 fl6_19 ft6_1 rfl mi59 rfl hhp3 g) ?_
  have hn := (pfv_len hhp3).trans hn
  refine Ra.of (fun c w r g => Rn.aload_n n59_19 l0 g) ?_
  refine Ra.of (fun c w r g => Rn.iload_n n59_20 l2 g) ?_
  refine Ra.of (fun c w r g => Rn.ic (v := 5) n59_21 (by decide) g) ?_
  refine Ra.of (fun c w r g => Rn.p n59_22 rfl g) ?_
  obtain ⟨hp4, hhp4, h⟩ := Option.bind_eq_some_iff.mp h
  refine Ra.nJ n59_23 hhp4 (by rw [hn]; exact ok) (by rw [hn]; exact (okc (okr r_v0) okn)) ?_ 
  have rn5 : hp3.length < hp4.length := by rw [nwJ_len hhp4]; exact Nat.lt_succ_self _
  have hle : n ≤ hp4.length := by rw [nwJ_len hhp4, hn]; exact Nat.le_succ _
  have r_v0 := Nat.lt_of_lt_of_le r_v0 hle
  have r_v1 := Nat.lt_of_lt_of_le r_v1 hle
  have ok := lvk_mono hle ok
  have hn : hp4.length = hp4.length := rfl
  obtain ⟨hp6, hhp6, h⟩ := Option.bind_eq_some_iff.mp h
  refine Ra.of (fun c w r g => Rn.pfF n59_25 mo59 fl6_22 ft6_3 rfl mi59 rfl hhp6 g) ?_
  have hn := (pfv_len hhp6).trans hn
  refine Ra.of (fun c w r g => Rn.aload_n n59_28 l0 g) ?_
  refine Ra.of (fun c w r g => Rn.iload_n n59_29 l2 g) ?_
  obtain ⟨hp7, hhp7, h⟩ := Option.bind_eq_some_iff.mp h
  refine Ra.nI n59_30 hhp7 (by rw [hn]; exact ok) (by rw [hn]; exact (okc (okr r_v0) okn)) ?_ 
  have rn8 : hp6.length < hp7.length := by rw [nwI_len hhp7]; exact Nat.lt_succ_self _
  have hle : hp4.length ≤ hp7.length := by rw [nwI_len hhp7, hn]; exact Nat.le_succ _
  have rn5 := Nat.lt_of_lt_of_le rn5 hle
  have r_v0 := Nat.lt_of_lt_of_le r_v0 hle
  have r_v1 := Nat.lt_of_lt_of_le r_v1 hle
  have ok := lvk_mono hle ok
  have hn : hp7.length = hp7.length := rfl
  obtain ⟨hp9, hhp9, h⟩ := Option.bind_eq_some_iff.mp h
  refine Ra.of (fun c w r g => Rn.pfF n59_32 mo59 fl6_26 ft6_4 rfl mi59 rfl hhp9 g) ?_
  have hn := (pfv_len hhp9).trans hn
  refine Ra.of (fun c w r g => Rn.aload_n n59_35 l0 g) ?_
  refine Ra.of (fun c w r g => Rn.iload_n n59_36 l2 g) ?_
  refine Ra.of (fun c w r g => Rn.ic (v := 2) n59_37 (by decide) g) ?_
  refine Ra.of (fun c w r g => Rn.p n59_38 rfl g) ?_
  obtain ⟨hp10, hhp10, h⟩ := Option.bind_eq_some_iff.mp h
  refine Ra.nI n59_39 hhp10 (by rw [hn]; exact ok) (by rw [hn]; exact (okc (okr r_v0) okn)) ?_ 
  have rn11 : hp9.length < hp10.length := by rw [nwI_len hhp10]; exact Nat.lt_succ_self _
  have hle : hp7.length ≤ hp10.length := by rw [nwI_len hhp10, hn]; exact Nat.le_succ _
  have rn5 := Nat.lt_of_lt_of_le rn5 hle
  have rn8 := Nat.lt_of_lt_of_le rn8 hle
  have r_v0 := Nat.lt_of_lt_of_le r_v0 hle
  have r_v1 := Nat.lt_of_lt_of_le r_v1 hle
  have ok := lvk_mono hle ok
  have hn : hp10.length = hp10.length := rfl
  obtain ⟨hp12, hhp12, h⟩ := Option.bind_eq_some_iff.mp h
  refine Ra.of (fun c w r g => Rn.pfF n59_41 mo59 fl6_30 ft6_5 rfl mi59 rfl hhp12 g) ?_
  have hn := (pfv_len hhp12).trans hn
  refine Ra.of (fun c w r g => Rn.aload_n n59_44 l0 g) ?_
  refine Ra.of (fun c w r g => Rn.iload_n n59_45 l2 g) ?_
  obtain ⟨hp13, hhp13, h⟩ := Option.bind_eq_some_iff.mp h
  refine Ra.nI n59_46 hhp13 (by rw [hn]; exact ok) (by rw [hn]; exact (okc (okr r_v0) okn)) ?_ 
  have rn14 : hp12.length < hp13.length := by rw [nwI_len hhp13]; exact Nat.lt_succ_self _
  have hle : hp10.length ≤ hp13.length := by rw [nwI_len hhp13, hn]; exact Nat.le_succ _
  have rn5 := Nat.lt_of_lt_of_le rn5 hle
  have rn8 := Nat.lt_of_lt_of_le rn8 hle
  have rn11 := Nat.lt_of_lt_of_le rn11 hle
  have r_v0 := Nat.lt_of_lt_of_le r_v0 hle
  have r_v1 := Nat.lt_of_lt_of_le r_v1 hle
  have ok := lvk_mono hle ok
  have hn : hp13.length = hp13.length := rfl
  obtain ⟨hp15, hhp15, h⟩ := Option.bind_eq_some_iff.mp h
  refine Ra.of (fun c w r g => Rn.pfF n59_48 mo59 fl6_33 ft6_6 rfl mi59 rfl hhp15 g) ?_
  have hn := (pfv_len hhp15).trans hn
  have e1 := (Prod.mk.inj (Option.some.inj h)).1
  have e2 := (Prod.mk.inj (Option.some.inj h)).2
  subst e1
  subst e2
  exact Ra.ret (fun c w => Rn.vret n59_51 mr59)
def e59 (F : Nat) (a0 : Nat) (a1 : Nat) (a2 : Int32) (hp : List mE) : Option (Unit × List mE) := m59_0 F a0 a1 a2 hp
theorem a59 {d : Nat} (hd : 1 ≤ d) (F : Nat) (a0 : Nat) (a1 : Nat) (a2 : Int32) (hp : List mE) (v : Unit) (hp' : List mE) (ra0 : a0 < hp.length) (ra1 : a1 < hp.length) (h : e59 F a0 a1 a2 hp = some (v, hp')) : Ra d 59 0 (lv_args 0 [.ref a0, .ref a1, .int a2]) [] hp (none) hp' :=
  t59_0 (n := hp.length) hd F a0 a1 a2 (lv_args 0 [.ref a0, .ref a1, .int a2]) hp v hp' rfl rfl rfl (lvk_args (okc (okr ra0) (okc (okr ra1) (okc rfl okn)))) rfl ra0 ra1 h
/-! MirrorRoots$Ideal.<init> -/
def m0_0 (F : Nat) (v0 : Nat) (v1 : Nat) (v2 : Nat) (hp : List mE) : Option (Unit × List mE) :=
  (nwJ hp 5).bind fun hp1 =>
  (pfv 0 3 hp1 v0 (.ref hp.length)).bind fun hp3 =>
  (nwI hp3 1280).bind fun hp4 =>
  (pfv 0 4 hp4 v0 (.ref hp3.length)).bind fun hp6 =>
  (nwJ hp6 65536).bind fun hp7 =>
  (pfv 0 5 hp7 v0 (.ref hp6.length)).bind fun hp9 =>
  (nwZ hp9 256).bind fun hp10 =>
  (pfv 0 6 hp10 v0 (.ref hp9.length)).bind fun hp12 =>
  (pfv 0 7 hp12 v0 (.int ((-1)))).bind fun hp13 =>
  (pfv 0 0 hp13 v0 (.ref v1)).bind fun hp14 =>
  (pfv 0 1 hp14 v0 (.ref v2)).bind fun hp15 =>
  (nwO 6 hp15).bind fun hp16 =>
  (e59 F hp15.length v1 256 hp16).bind fun q18 =>
  (pfv 0 2 q18.2 v0 (.ref hp15.length)).bind fun hp19 =>
  some ((), hp19)
theorem t0_0 {d n : Nat} (hd : 2 ≤ d) (F : Nat) : ∀ (v0 : Nat) (v1 : Nat) (v2 : Nat) (lv : List (Nat × Value)) (hp : List mE) (v : Unit) (hp' : List mE), alk 0 lv = some (.ref v0) → alk 1 lv = some (.ref v1) → alk 2 lv = some (.ref v2) → lvk n lv → hp.length = n → v0 < n → v1 < n → v2 < n → m0_0 F v0 v1 v2 hp = some (v, hp') → Ra d 0 0 lv [] hp (none) hp' := by
  obtain ⟨d', rfl⟩ : ∃ d', d = d' + 1 := ⟨d - 1, by omega⟩
  intro v0 v1 v2 lv hp v hp' l0 l1 l2 ok hn r_v0 r_v1 r_v2 h
  unfold m0_0 at h
  refine Ra.of (fun c w r g => Rn.aload_n n0_0 l0 g) ?_
  refine Ra.of (fun c w r g => Rn.oi n0_1 mo0 mm0_5 (Nat.le_of_ble_eq_true rfl) rfl g) ?_
  refine Ra.of (fun c w r g => Rn.aload_n n0_4 l0 g) ?_
  refine Ra.of (fun c w r g => Rn.ic (v := 5) n0_5 (by decide) g) ?_
  obtain ⟨hp1, hhp1, h⟩ := Option.bind_eq_some_iff.mp h
  refine Ra.nJ n0_6 hhp1 (by rw [hn]; exact ok) (by rw [hn]; exact (okc (okr r_v0) okn)) ?_ 
  have rn2 : hp.length < hp1.length := by rw [nwJ_len hhp1]; exact Nat.lt_succ_self _
  have hle : n ≤ hp1.length := by rw [nwJ_len hhp1, hn]; exact Nat.le_succ _
  have r_v0 := Nat.lt_of_lt_of_le r_v0 hle
  have r_v1 := Nat.lt_of_lt_of_le r_v1 hle
  have r_v2 := Nat.lt_of_lt_of_le r_v2 hle
  have ok := lvk_mono hle ok
  have hn : hp1.length = hp1.length := rfl
  obtain ⟨hp3, hhp3, h⟩ := Option.bind_eq_some_iff.mp h
  refine Ra.of (fun c w r g => Rn.pfF n0_8 mo0 fl0_11 ft0_3 rfl mi0 rfl hhp3 g) ?_
  have hn := (pfv_len hhp3).trans hn
  refine Ra.of (fun c w r g => Rn.aload_n n0_11 l0 g) ?_
  refine Ra.of (fun c w r g => Rn.sp (v := 1280) n0_12 (by decide) g) ?_
  obtain ⟨hp4, hhp4, h⟩ := Option.bind_eq_some_iff.mp h
  refine Ra.nI n0_15 hhp4 (by rw [hn]; exact ok) (by rw [hn]; exact (okc (okr r_v0) okn)) ?_ 
  have rn5 : hp3.length < hp4.length := by rw [nwI_len hhp4]; exact Nat.lt_succ_self _
  have hle : hp1.length ≤ hp4.length := by rw [nwI_len hhp4, hn]; exact Nat.le_succ _
  have rn2 := Nat.lt_of_lt_of_le rn2 hle
  have r_v0 := Nat.lt_of_lt_of_le r_v0 hle
  have r_v1 := Nat.lt_of_lt_of_le r_v1 hle
  have r_v2 := Nat.lt_of_lt_of_le r_v2 hle
  have ok := lvk_mono hle ok
  have hn : hp4.length = hp4.length := rfl
  obtain ⟨hp6, hhp6, h⟩ := Option.bind_eq_some_iff.mp h
  refine Ra.of (fun c w r g => Rn.pfF n0_17 mo0 fl0_15 ft0_4 rfl mi0 rfl hhp6 g) ?_
  have hn := (pfv_len hhp6).trans hn
  refine Ra.of (fun c w r g => Rn.aload_n n0_20 l0 g) ?_
  refine Ra.of (fun c w r g => Rn.ldc n0_21 mo0 ci0_19 g) ?_
  obtain ⟨hp7, hhp7, h⟩ := Option.bind_eq_some_iff.mp h
  refine Ra.nJ n0_23 hhp7 (by rw [hn]; exact ok) (by rw [hn]; exact (okc (okr r_v0) okn)) ?_ 
  have rn8 : hp6.length < hp7.length := by rw [nwJ_len hhp7]; exact Nat.lt_succ_self _
  have hle : hp4.length ≤ hp7.length := by rw [nwJ_len hhp7, hn]; exact Nat.le_succ _
  have rn2 := Nat.lt_of_lt_of_le rn2 hle
  have rn5 := Nat.lt_of_lt_of_le rn5 hle
  have r_v0 := Nat.lt_of_lt_of_le r_v0 hle
  have r_v1 := Nat.lt_of_lt_of_le r_v1 hle
  have r_v2 := Nat.lt_of_lt_of_le r_v2 hle
  have ok := lvk_mono hle ok
  have hn : hp7.length = hp7.length := rfl
  obtain ⟨hp9, hhp9, h⟩ := Option.bind_eq_some_iff.mp h
  refine Ra.of (fun c w r g => Rn.pfF n0_25 mo0 fl0_20 ft0_5 rfl mi0 rfl hhp9 g) ?_
  have hn := (pfv_len hhp9).trans hn
  refine Ra.of (fun c w r g => Rn.aload_n n0_28 l0 g) ?_
  refine Ra.of (fun c w r g => Rn.sp (v := 256) n0_29 (by decide) g) ?_
  obtain ⟨hp10, hhp10, h⟩ := Option.bind_eq_some_iff.mp h
  refine Ra.nZ n0_32 hhp10 (by rw [hn]; exact ok) (by rw [hn]; exact (okc (okr r_v0) okn)) ?_ 
  have rn11 : hp9.length < hp10.length := by rw [nwZ_len hhp10]; exact Nat.lt_succ_self _
  have hle : hp7.length ≤ hp10.length := by rw [nwZ_len hhp10, hn]; exact Nat.le_succ _
  have rn2 := Nat.lt_of_lt_of_le rn2 hle
  have rn5 := Nat.lt_of_lt_of_le rn5 hle
  have rn8 := Nat.lt_of_lt_of_le rn8 hle
  have r_v0 := Nat.lt_of_lt_of_le r_v0 hle
  have r_v1 := Nat.lt_of_lt_of_le r_v1 hle
  have r_v2 := Nat.lt_of_lt_of_le r_v2 hle
  have ok := lvk_mono hle ok
  have hn : hp10.length = hp10.length := rfl
  obtain ⟨hp12, hhp12, h⟩ := Option.bind_eq_some_iff.mp h
  refine Ra.of (fun c w r g => Rn.pfF n0_34 mo0 fl0_23 ft0_6 rfl mi0 rfl hhp12 g) ?_
  have hn := (pfv_len hhp12).trans hn
  refine Ra.of (fun c w r g => Rn.aload_n n0_37 l0 g) ?_
  refine Ra.of (fun c w r g => Rn.ic (v := (-1)) n0_38 (by decide) g) ?_
  obtain ⟨hp13, hhp13, h⟩ := Option.bind_eq_some_iff.mp h
  refine Ra.of (fun c w r g => Rn.pf n0_39 mo0 fl0_27 ft0_7 rfl ff0_7 (fun _ _ hh => by cases hh) hhp13 g) ?_
  have hn := (pfv_len hhp13).trans hn
  refine Ra.of (fun c w r g => Rn.aload_n n0_42 l0 g) ?_
  refine Ra.of (fun c w r g => Rn.aload_n n0_43 l1 g) ?_
  obtain ⟨hp14, hhp14, h⟩ := Option.bind_eq_some_iff.mp h
  refine Ra.of (fun c w r g => Rn.pfF n0_44 mo0 fl0_31 ft0_0 rfl mi0 rfl hhp14 g) ?_
  have hn := (pfv_len hhp14).trans hn
  refine Ra.of (fun c w r g => Rn.aload_n n0_47 l0 g) ?_
  refine Ra.of (fun c w r g => Rn.aload_n n0_48 l2 g) ?_
  obtain ⟨hp15, hhp15, h⟩ := Option.bind_eq_some_iff.mp h
  refine Ra.of (fun c w r g => Rn.pfF n0_49 mo0 fl0_35 ft0_1 rfl mi0 rfl hhp15 g) ?_
  have hn := (pfv_len hhp15).trans hn
  refine Ra.of (fun c w r g => Rn.aload_n n0_52 l0 g) ?_
  obtain ⟨hp16, hhp16, h⟩ := Option.bind_eq_some_iff.mp h
  refine Ra.nw n0_53 mo0 nl0_39 hhp16 (by rw [hn]; exact ok) (by rw [hn]; exact (okc (okr r_v0) okn)) ?_ 
  have rn17 : hp15.length < hp16.length := by rw [nwO_len hhp16]; exact Nat.lt_succ_self _
  have hle : hp10.length ≤ hp16.length := by rw [nwO_len hhp16, hn]; exact Nat.le_succ _
  have rn2 := Nat.lt_of_lt_of_le rn2 hle
  have rn5 := Nat.lt_of_lt_of_le rn5 hle
  have rn8 := Nat.lt_of_lt_of_le rn8 hle
  have rn11 := Nat.lt_of_lt_of_le rn11 hle
  have r_v0 := Nat.lt_of_lt_of_le r_v0 hle
  have r_v1 := Nat.lt_of_lt_of_le r_v1 hle
  have r_v2 := Nat.lt_of_lt_of_le r_v2 hle
  have ok := lvk_mono hle ok
  have hn : hp16.length = hp16.length := rfl
  refine Ra.of (fun c w r g => Rn.p n0_56 rfl g) ?_
  refine Ra.of (fun c w r g => Rn.aload_n n0_57 l1 g) ?_
  refine Ra.of (fun c w r g => Rn.sp (v := 256) n0_58 (by decide) g) ?_
  obtain ⟨q18, hq18, h⟩ := Option.bind_eq_some_iff.mp h
  have gq18 := a59 (d := d') (by omega) F _ _ _ _ _ _ (by rw [hn]; exact rn17) (by rw [hn]; exact r_v1) hq18
  refine Ra.call gq18 (fun c w c1 w1 r h1 g => Rn.ci (As := [.ref v1, .int 256]) (rr := [.ref hp15.length, .ref v0]) n0_61 mo0 mm0_41 mq59 rfl rfl rfl rfl (Nat.le_of_ble_eq_true rfl) (by rw [hn]; exact (okc (okr rn17) (okc (okr r_v1) (okc rfl okn)))) (by rw [hn]; exact (okc (okr rn17) (okc (okr r_v0) okn))) (by rw [hn]; exact ok) (by rw [ml59]; exact Nat.le_of_ble_eq_true rfl) h1 g) ?_ 
  have hle : hp16.length ≤ q18.2.length := by rw [← hn]; exact Ra.len gq18
  have rn2 := Nat.lt_of_lt_of_le rn2 hle
  have rn17 := Nat.lt_of_lt_of_le rn17 hle
  have rn5 := Nat.lt_of_lt_of_le rn5 hle
  have rn8 := Nat.lt_of_lt_of_le rn8 hle
  have rn11 := Nat.lt_of_lt_of_le rn11 hle
  have r_v0 := Nat.lt_of_lt_of_le r_v0 hle
  have r_v1 := Nat.lt_of_lt_of_le r_v1 hle
  have r_v2 := Nat.lt_of_lt_of_le r_v2 hle
  have ok := lvk_mono hle ok
  have hn : q18.2.length = q18.2.length := rfl
  show Ra _ 0 64 lv [.ref hp15.length, .ref v0] q18.2 _ _
  obtain ⟨hp19, hhp19, h⟩ := Option.bind_eq_some_iff.mp h
  refine Ra.of (fun c w r g => Rn.pfF n0_64 mo0 fl0_44 ft0_2 rfl mi0 rfl hhp19 g) ?_
  have hn := (pfv_len hhp19).trans hn
  have e1 := (Prod.mk.inj (Option.some.inj h)).1
  have e2 := (Prod.mk.inj (Option.some.inj h)).2
  subst e1
  subst e2
  exact Ra.ret (fun c w => Rn.vret n0_67 mr0)
def e0 (F : Nat) (a0 : Nat) (a1 : Nat) (a2 : Nat) (hp : List mE) : Option (Unit × List mE) := m0_0 F a0 a1 a2 hp
theorem a0 {d : Nat} (hd : 2 ≤ d) (F : Nat) (a0 : Nat) (a1 : Nat) (a2 : Nat) (hp : List mE) (v : Unit) (hp' : List mE) (ra0 : a0 < hp.length) (ra1 : a1 < hp.length) (ra2 : a2 < hp.length) (h : e0 F a0 a1 a2 hp = some (v, hp')) : Ra d 0 0 (lv_args 0 [.ref a0, .ref a1, .ref a2]) [] hp (none) hp' :=
  t0_0 (n := hp.length) hd F a0 a1 a2 (lv_args 0 [.ref a0, .ref a1, .ref a2]) hp v hp' rfl rfl rfl (lvk_args (okc (okr ra0) (okc (okr ra1) (okc (okr ra2) okn)))) rfl ra0 ra1 ra2 h
/-! MirrorRoots$Kept.<init> -/
def m14_0 (F : Nat) (v0 : Nat) (v1 : Nat) (hp : List mE) : Option (Unit × List mE) :=
  (nwI hp 800).bind fun hp1 =>
  (pfv 1 2 hp1 v0 (.ref hp.length)).bind fun hp3 =>
  (nwI hp3 40).bind fun hp4 =>
  (pfv 1 3 hp4 v0 (.ref hp3.length)).bind fun hp6 =>
  (nwJ hp6 200).bind fun hp7 =>
  (pfv 1 4 hp7 v0 (.ref hp6.length)).bind fun hp9 =>
  (nwJ hp9 200).bind fun hp10 =>
  (pfv 1 5 hp10 v0 (.ref hp9.length)).bind fun hp12 =>
  (nwJ hp12 5).bind fun hp13 =>
  (pfv 1 6 hp13 v0 (.ref hp12.length)).bind fun hp15 =>
  (pfv 1 0 hp15 v0 (.ref v1)).bind fun hp16 =>
  (rcv 1 hp16 v0).bind fun u18 =>
  (e15 F v0 hp16).bind fun q17 =>
  some ((), q17.2)
theorem t14_0 {d n : Nat} (hd : 2 ≤ d) (F : Nat) : ∀ (v0 : Nat) (v1 : Nat) (lv : List (Nat × Value)) (hp : List mE) (v : Unit) (hp' : List mE), alk 0 lv = some (.ref v0) → alk 1 lv = some (.ref v1) → lvk n lv → hp.length = n → v0 < n → v1 < n → m14_0 F v0 v1 hp = some (v, hp') → Ra d 14 0 lv [] hp (none) hp' := by
  obtain ⟨d', rfl⟩ : ∃ d', d = d' + 1 := ⟨d - 1, by omega⟩
  intro v0 v1 lv hp v hp' l0 l1 ok hn r_v0 r_v1 h
  unfold m14_0 at h
  refine Ra.of (fun c w r g => Rn.aload_n n14_0 l0 g) ?_
  refine Ra.of (fun c w r g => Rn.oi n14_1 mo14 mm1_3 (Nat.le_of_ble_eq_true rfl) rfl g) ?_
  refine Ra.of (fun c w r g => Rn.aload_n n14_4 l0 g) ?_
  refine Ra.of (fun c w r g => Rn.sp (v := 800) n14_5 (by decide) g) ?_
  obtain ⟨hp1, hhp1, h⟩ := Option.bind_eq_some_iff.mp h
  refine Ra.nI n14_8 hhp1 (by rw [hn]; exact ok) (by rw [hn]; exact (okc (okr r_v0) okn)) ?_ 
  have rn2 : hp.length < hp1.length := by rw [nwI_len hhp1]; exact Nat.lt_succ_self _
  have hle : n ≤ hp1.length := by rw [nwI_len hhp1, hn]; exact Nat.le_succ _
  have r_v0 := Nat.lt_of_lt_of_le r_v0 hle
  have r_v1 := Nat.lt_of_lt_of_le r_v1 hle
  have ok := lvk_mono hle ok
  have hn : hp1.length = hp1.length := rfl
  obtain ⟨hp3, hhp3, h⟩ := Option.bind_eq_some_iff.mp h
  refine Ra.of (fun c w r g => Rn.pfF n14_10 mo14 fl1_9 ft1_2 rfl mi14 rfl hhp3 g) ?_
  have hn := (pfv_len hhp3).trans hn
  refine Ra.of (fun c w r g => Rn.aload_n n14_13 l0 g) ?_
  refine Ra.of (fun c w r g => Rn.bp (v := 40) n14_14 (by decide) g) ?_
  obtain ⟨hp4, hhp4, h⟩ := Option.bind_eq_some_iff.mp h
  refine Ra.nI n14_16 hhp4 (by rw [hn]; exact ok) (by rw [hn]; exact (okc (okr r_v0) okn)) ?_ 
  have rn5 : hp3.length < hp4.length := by rw [nwI_len hhp4]; exact Nat.lt_succ_self _
  have hle : hp1.length ≤ hp4.length := by rw [nwI_len hhp4, hn]; exact Nat.le_succ _
  have rn2 := Nat.lt_of_lt_of_le rn2 hle
  have r_v0 := Nat.lt_of_lt_of_le r_v0 hle
  have r_v1 := Nat.lt_of_lt_of_le r_v1 hle
  have ok := lvk_mono hle ok
  have hn : hp4.length = hp4.length := rfl
  obtain ⟨hp6, hhp6, h⟩ := Option.bind_eq_some_iff.mp h
  refine Ra.of (fun c w r g => Rn.pfF n14_18 mo14 fl1_15 ft1_3 rfl mi14 rfl hhp6 g) ?_
  have hn := (pfv_len hhp6).trans hn
  refine Ra.of (fun c w r g => Rn.aload_n n14_21 l0 g) ?_
  refine Ra.of (fun c w r g => Rn.sp (v := 200) n14_22 (by decide) g) ?_
  obtain ⟨hp7, hhp7, h⟩ := Option.bind_eq_some_iff.mp h
  refine Ra.nJ n14_25 hhp7 (by rw [hn]; exact ok) (by rw [hn]; exact (okc (okr r_v0) okn)) ?_ 
  have rn8 : hp6.length < hp7.length := by rw [nwJ_len hhp7]; exact Nat.lt_succ_self _
  have hle : hp4.length ≤ hp7.length := by rw [nwJ_len hhp7, hn]; exact Nat.le_succ _
  have rn2 := Nat.lt_of_lt_of_le rn2 hle
  have rn5 := Nat.lt_of_lt_of_le rn5 hle
  have r_v0 := Nat.lt_of_lt_of_le r_v0 hle
  have r_v1 := Nat.lt_of_lt_of_le r_v1 hle
  have ok := lvk_mono hle ok
  have hn : hp7.length = hp7.length := rfl
  obtain ⟨hp9, hhp9, h⟩ := Option.bind_eq_some_iff.mp h
  refine Ra.of (fun c w r g => Rn.pfF n14_27 mo14 fl1_18 ft1_4 rfl mi14 rfl hhp9 g) ?_
  have hn := (pfv_len hhp9).trans hn
  refine Ra.of (fun c w r g => Rn.aload_n n14_30 l0 g) ?_
  refine Ra.of (fun c w r g => Rn.sp (v := 200) n14_31 (by decide) g) ?_
  obtain ⟨hp10, hhp10, h⟩ := Option.bind_eq_some_iff.mp h
  refine Ra.nJ n14_34 hhp10 (by rw [hn]; exact ok) (by rw [hn]; exact (okc (okr r_v0) okn)) ?_ 
  have rn11 : hp9.length < hp10.length := by rw [nwJ_len hhp10]; exact Nat.lt_succ_self _
  have hle : hp7.length ≤ hp10.length := by rw [nwJ_len hhp10, hn]; exact Nat.le_succ _
  have rn2 := Nat.lt_of_lt_of_le rn2 hle
  have rn5 := Nat.lt_of_lt_of_le rn5 hle
  have rn8 := Nat.lt_of_lt_of_le rn8 hle
  have r_v0 := Nat.lt_of_lt_of_le r_v0 hle
  have r_v1 := Nat.lt_of_lt_of_le r_v1 hle
  have ok := lvk_mono hle ok
  have hn : hp10.length = hp10.length := rfl
  obtain ⟨hp12, hhp12, h⟩ := Option.bind_eq_some_iff.mp h
  refine Ra.of (fun c w r g => Rn.pfF n14_36 mo14 fl1_22 ft1_5 rfl mi14 rfl hhp12 g) ?_
  have hn := (pfv_len hhp12).trans hn
  refine Ra.of (fun c w r g => Rn.aload_n n14_39 l0 g) ?_
  refine Ra.of (fun c w r g => Rn.ic (v := 5) n14_40 (by decide) g) ?_
  obtain ⟨hp13, hhp13, h⟩ := Option.bind_eq_some_iff.mp h
  refine Ra.nJ n14_41 hhp13 (by rw [hn]; exact ok) (by rw [hn]; exact (okc (okr r_v0) okn)) ?_ 
  have rn14 : hp12.length < hp13.length := by rw [nwJ_len hhp13]; exact Nat.lt_succ_self _
  have hle : hp10.length ≤ hp13.length := by rw [nwJ_len hhp13, hn]; exact Nat.le_succ _
  have rn2 := Nat.lt_of_lt_of_le rn2 hle
  have rn5 := Nat.lt_of_lt_of_le rn5 hle
  have rn8 := Nat.lt_of_lt_of_le rn8 hle
  have rn11 := Nat.lt_of_lt_of_le rn11 hle
  have r_v0 := Nat.lt_of_lt_of_le r_v0 hle
  have r_v1 := Nat.lt_of_lt_of_le r_v1 hle
  have ok := lvk_mono hle ok
  have hn : hp13.length = hp13.length := rfl
  obtain ⟨hp15, hhp15, h⟩ := Option.bind_eq_some_iff.mp h
  refine Ra.of (fun c w r g => Rn.pfF n14_43 mo14 fl1_25 ft1_6 rfl mi14 rfl hhp15 g) ?_
  have hn := (pfv_len hhp15).trans hn
  refine Ra.of (fun c w r g => Rn.aload_n n14_46 l0 g) ?_
  refine Ra.of (fun c w r g => Rn.aload_n n14_47 l1 g) ?_
  obtain ⟨hp16, hhp16, h⟩ := Option.bind_eq_some_iff.mp h
  refine Ra.of (fun c w r g => Rn.pfF n14_48 mo14 fl1_28 ft1_0 rfl mi14 rfl hhp16 g) ?_
  have hn := (pfv_len hhp16).trans hn
  refine Ra.of (fun c w r g => Rn.aload_n n14_51 l0 g) ?_
  obtain ⟨u18, hu18, h⟩ := Option.bind_eq_some_iff.mp h
  obtain ⟨q17, hq17, h⟩ := Option.bind_eq_some_iff.mp h
  have gq17 := c15 (d := d') (by omega) F _ _ _ _ (by rw [hn]; exact r_v0) hq17
  refine Ra.of (fun c w r g => Rn.cv (As := []) (rr := []) n14_52 mo14 mm1_32 (by decide) mq15 rfl rfl rfl rfl (by rw [mo15]; exact hu18) (Nat.le_of_ble_eq_true rfl) (by rw [hn]; exact (okc (okr r_v0) okn)) (by rw [hn]; exact okn) (by rw [hn]; exact ok) (by rw [ml15]; exact Nat.le_of_ble_eq_true rfl) gq17 g) ?_
  have hn := (Rn.len gq17).trans hn
  show Ra _ 14 55 lv [] q17.2 _ _
  have e1 := (Prod.mk.inj (Option.some.inj h)).1
  have e2 := (Prod.mk.inj (Option.some.inj h)).2
  subst e1
  subst e2
  exact Ra.ret (fun c w => Rn.vret n14_55 mr14)
def e14 (F : Nat) (a0 : Nat) (a1 : Nat) (hp : List mE) : Option (Unit × List mE) := m14_0 F a0 a1 hp
theorem a14 {d : Nat} (hd : 2 ≤ d) (F : Nat) (a0 : Nat) (a1 : Nat) (hp : List mE) (v : Unit) (hp' : List mE) (ra0 : a0 < hp.length) (ra1 : a1 < hp.length) (h : e14 F a0 a1 hp = some (v, hp')) : Ra d 14 0 (lv_args 0 [.ref a0, .ref a1]) [] hp (none) hp' :=
  t14_0 (n := hp.length) hd F a0 a1 (lv_args 0 [.ref a0, .ref a1]) hp v hp' rfl rfl (lvk_args (okc (okr ra0) (okc (okr ra1) okn))) rfl ra0 ra1 h
/-! MirrorRoots$Layers.<init> -/
def m21_0 (F : Nat) (v0 : Nat) (v1 : Nat) (v2 : Nat) (hp : List mE) : Option (Unit × List mE) :=
  (nwJ hp 5).bind fun hp1 =>
  (pfv 2 3 hp1 v0 (.ref hp.length)).bind fun hp3 =>
  (nwJ hp3 4096).bind fun hp4 =>
  (pfv 2 4 hp4 v0 (.ref hp3.length)).bind fun hp6 =>
  (nwI hp6 32).bind fun hp7 =>
  (pfv 2 5 hp7 v0 (.ref hp6.length)).bind fun hp9 =>
  (pfv 2 8 hp9 v0 (.int ((-1)))).bind fun hp10 =>
  (pfv 2 0 hp10 v0 (.ref v1)).bind fun hp11 =>
  (pfv 2 1 hp11 v0 (.ref v2)).bind fun hp12 =>
  (nwO 6 hp12).bind fun hp13 =>
  (e59 F hp12.length v1 4096 hp13).bind fun q15 =>
  (pfv 2 2 q15.2 v0 (.ref hp12.length)).bind fun hp16 =>
  some ((), hp16)
theorem t21_0 {d n : Nat} (hd : 2 ≤ d) (F : Nat) : ∀ (v0 : Nat) (v1 : Nat) (v2 : Nat) (lv : List (Nat × Value)) (hp : List mE) (v : Unit) (hp' : List mE), alk 0 lv = some (.ref v0) → alk 1 lv = some (.ref v1) → alk 2 lv = some (.ref v2) → lvk n lv → hp.length = n → v0 < n → v1 < n → v2 < n → m21_0 F v0 v1 v2 hp = some (v, hp') → Ra d 21 0 lv [] hp (none) hp' := by
  obtain ⟨d', rfl⟩ : ∃ d', d = d' + 1 := ⟨d - 1, by omega⟩
  intro v0 v1 v2 lv hp v hp' l0 l1 l2 ok hn r_v0 r_v1 r_v2 h
  unfold m21_0 at h
  refine Ra.of (fun c w r g => Rn.aload_n n21_0 l0 g) ?_
  refine Ra.of (fun c w r g => Rn.oi n21_1 mo21 mm2_3 (Nat.le_of_ble_eq_true rfl) rfl g) ?_
  refine Ra.of (fun c w r g => Rn.aload_n n21_4 l0 g) ?_
  refine Ra.of (fun c w r g => Rn.ic (v := 5) n21_5 (by decide) g) ?_
  obtain ⟨hp1, hhp1, h⟩ := Option.bind_eq_some_iff.mp h
  refine Ra.nJ n21_6 hhp1 (by rw [hn]; exact ok) (by rw [hn]; exact (okc (okr r_v0) okn)) ?_ 
  have rn2 : hp.length < hp1.length := by rw [nwJ_len hhp1]; exact Nat.lt_succ_self _
  have hle : n ≤ hp1.length := by rw [nwJ_len hhp1, hn]; exact Nat.le_succ _
  have r_v0 := Nat.lt_of_lt_of_le r_v0 hle
  have r_v1 := Nat.lt_of_lt_of_le r_v1 hle
  have r_v2 := Nat.lt_of_lt_of_le r_v2 hle
  have ok := lvk_mono hle ok
  have hn : hp1.length = hp1.length := rfl
  obtain ⟨hp3, hhp3, h⟩ := Option.bind_eq_some_iff.mp h
  refine Ra.of (fun c w r g => Rn.pfF n21_8 mo21 fl2_9 ft2_3 rfl mi21 rfl hhp3 g) ?_
  have hn := (pfv_len hhp3).trans hn
  refine Ra.of (fun c w r g => Rn.aload_n n21_11 l0 g) ?_
  refine Ra.of (fun c w r g => Rn.sp (v := 4096) n21_12 (by decide) g) ?_
  obtain ⟨hp4, hhp4, h⟩ := Option.bind_eq_some_iff.mp h
  refine Ra.nJ n21_15 hhp4 (by rw [hn]; exact ok) (by rw [hn]; exact (okc (okr r_v0) okn)) ?_ 
  have rn5 : hp3.length < hp4.length := by rw [nwJ_len hhp4]; exact Nat.lt_succ_self _
  have hle : hp1.length ≤ hp4.length := by rw [nwJ_len hhp4, hn]; exact Nat.le_succ _
  have rn2 := Nat.lt_of_lt_of_le rn2 hle
  have r_v0 := Nat.lt_of_lt_of_le r_v0 hle
  have r_v1 := Nat.lt_of_lt_of_le r_v1 hle
  have r_v2 := Nat.lt_of_lt_of_le r_v2 hle
  have ok := lvk_mono hle ok
  have hn : hp4.length = hp4.length := rfl
  obtain ⟨hp6, hhp6, h⟩ := Option.bind_eq_some_iff.mp h
  refine Ra.of (fun c w r g => Rn.pfF n21_17 mo21 fl2_15 ft2_4 rfl mi21 rfl hhp6 g) ?_
  have hn := (pfv_len hhp6).trans hn
  refine Ra.of (fun c w r g => Rn.aload_n n21_20 l0 g) ?_
  refine Ra.of (fun c w r g => Rn.bp (v := 32) n21_21 (by decide) g) ?_
  obtain ⟨hp7, hhp7, h⟩ := Option.bind_eq_some_iff.mp h
  refine Ra.nI n21_23 hhp7 (by rw [hn]; exact ok) (by rw [hn]; exact (okc (okr r_v0) okn)) ?_ 
  have rn8 : hp6.length < hp7.length := by rw [nwI_len hhp7]; exact Nat.lt_succ_self _
  have hle : hp4.length ≤ hp7.length := by rw [nwI_len hhp7, hn]; exact Nat.le_succ _
  have rn2 := Nat.lt_of_lt_of_le rn2 hle
  have rn5 := Nat.lt_of_lt_of_le rn5 hle
  have r_v0 := Nat.lt_of_lt_of_le r_v0 hle
  have r_v1 := Nat.lt_of_lt_of_le r_v1 hle
  have r_v2 := Nat.lt_of_lt_of_le r_v2 hle
  have ok := lvk_mono hle ok
  have hn : hp7.length = hp7.length := rfl
  obtain ⟨hp9, hhp9, h⟩ := Option.bind_eq_some_iff.mp h
  refine Ra.of (fun c w r g => Rn.pfF n21_25 mo21 fl2_18 ft2_5 rfl mi21 rfl hhp9 g) ?_
  have hn := (pfv_len hhp9).trans hn
  refine Ra.of (fun c w r g => Rn.aload_n n21_28 l0 g) ?_
  refine Ra.of (fun c w r g => Rn.ic (v := (-1)) n21_29 (by decide) g) ?_
  obtain ⟨hp10, hhp10, h⟩ := Option.bind_eq_some_iff.mp h
  refine Ra.of (fun c w r g => Rn.pf n21_30 mo21 fl2_22 ft2_8 rfl ff2_8 (fun _ _ hh => by cases hh) hhp10 g) ?_
  have hn := (pfv_len hhp10).trans hn
  refine Ra.of (fun c w r g => Rn.aload_n n21_33 l0 g) ?_
  refine Ra.of (fun c w r g => Rn.aload_n n21_34 l1 g) ?_
  obtain ⟨hp11, hhp11, h⟩ := Option.bind_eq_some_iff.mp h
  refine Ra.of (fun c w r g => Rn.pfF n21_35 mo21 fl2_26 ft2_0 rfl mi21 rfl hhp11 g) ?_
  have hn := (pfv_len hhp11).trans hn
  refine Ra.of (fun c w r g => Rn.aload_n n21_38 l0 g) ?_
  refine Ra.of (fun c w r g => Rn.aload_n n21_39 l2 g) ?_
  obtain ⟨hp12, hhp12, h⟩ := Option.bind_eq_some_iff.mp h
  refine Ra.of (fun c w r g => Rn.pfF n21_40 mo21 fl2_30 ft2_1 rfl mi21 rfl hhp12 g) ?_
  have hn := (pfv_len hhp12).trans hn
  refine Ra.of (fun c w r g => Rn.aload_n n21_43 l0 g) ?_
  obtain ⟨hp13, hhp13, h⟩ := Option.bind_eq_some_iff.mp h
  refine Ra.nw n21_44 mo21 nl2_34 hhp13 (by rw [hn]; exact ok) (by rw [hn]; exact (okc (okr r_v0) okn)) ?_ 
  have rn14 : hp12.length < hp13.length := by rw [nwO_len hhp13]; exact Nat.lt_succ_self _
  have hle : hp7.length ≤ hp13.length := by rw [nwO_len hhp13, hn]; exact Nat.le_succ _
  have rn2 := Nat.lt_of_lt_of_le rn2 hle
  have rn5 := Nat.lt_of_lt_of_le rn5 hle
  have rn8 := Nat.lt_of_lt_of_le rn8 hle
  have r_v0 := Nat.lt_of_lt_of_le r_v0 hle
  have r_v1 := Nat.lt_of_lt_of_le r_v1 hle
  have r_v2 := Nat.lt_of_lt_of_le r_v2 hle
  have ok := lvk_mono hle ok
  have hn : hp13.length = hp13.length := rfl
  refine Ra.of (fun c w r g => Rn.p n21_47 rfl g) ?_
  refine Ra.of (fun c w r g => Rn.aload_n n21_48 l1 g) ?_
  refine Ra.of (fun c w r g => Rn.sp (v := 4096) n21_49 (by decide) g) ?_
  obtain ⟨q15, hq15, h⟩ := Option.bind_eq_some_iff.mp h
  have gq15 := a59 (d := d') (by omega) F _ _ _ _ _ _ (by rw [hn]; exact rn14) (by rw [hn]; exact r_v1) hq15
  refine Ra.call gq15 (fun c w c1 w1 r h1 g => Rn.ci (As := [.ref v1, .int 4096]) (rr := [.ref hp12.length, .ref v0]) n21_52 mo21 mm2_36 mq59 rfl rfl rfl rfl (Nat.le_of_ble_eq_true rfl) (by rw [hn]; exact (okc (okr rn14) (okc (okr r_v1) (okc rfl okn)))) (by rw [hn]; exact (okc (okr rn14) (okc (okr r_v0) okn))) (by rw [hn]; exact ok) (by rw [ml59]; exact Nat.le_of_ble_eq_true rfl) h1 g) ?_ 
  have hle : hp13.length ≤ q15.2.length := by rw [← hn]; exact Ra.len gq15
  have rn2 := Nat.lt_of_lt_of_le rn2 hle
  have rn14 := Nat.lt_of_lt_of_le rn14 hle
  have rn5 := Nat.lt_of_lt_of_le rn5 hle
  have rn8 := Nat.lt_of_lt_of_le rn8 hle
  have r_v0 := Nat.lt_of_lt_of_le r_v0 hle
  have r_v1 := Nat.lt_of_lt_of_le r_v1 hle
  have r_v2 := Nat.lt_of_lt_of_le r_v2 hle
  have ok := lvk_mono hle ok
  have hn : q15.2.length = q15.2.length := rfl
  show Ra _ 21 55 lv [.ref hp12.length, .ref v0] q15.2 _ _
  obtain ⟨hp16, hhp16, h⟩ := Option.bind_eq_some_iff.mp h
  refine Ra.of (fun c w r g => Rn.pfF n21_55 mo21 fl2_39 ft2_2 rfl mi21 rfl hhp16 g) ?_
  have hn := (pfv_len hhp16).trans hn
  have e1 := (Prod.mk.inj (Option.some.inj h)).1
  have e2 := (Prod.mk.inj (Option.some.inj h)).2
  subst e1
  subst e2
  exact Ra.ret (fun c w => Rn.vret n21_58 mr21)
def e21 (F : Nat) (a0 : Nat) (a1 : Nat) (a2 : Nat) (hp : List mE) : Option (Unit × List mE) := m21_0 F a0 a1 a2 hp
theorem a21 {d : Nat} (hd : 2 ≤ d) (F : Nat) (a0 : Nat) (a1 : Nat) (a2 : Nat) (hp : List mE) (v : Unit) (hp' : List mE) (ra0 : a0 < hp.length) (ra1 : a1 < hp.length) (ra2 : a2 < hp.length) (h : e21 F a0 a1 a2 hp = some (v, hp')) : Ra d 21 0 (lv_args 0 [.ref a0, .ref a1, .ref a2]) [] hp (none) hp' :=
  t21_0 (n := hp.length) hd F a0 a1 a2 (lv_args 0 [.ref a0, .ref a1, .ref a2]) hp v hp' rfl rfl rfl (lvk_args (okc (okr ra0) (okc (okr ra1) (okc (okr ra2) okn)))) rfl ra0 ra1 ra2 h
/-! MirrorRoots$Mirrors.<init> -/
def m31_37 (F : Nat) (rc27 : Nat → Int32 → List mE → Option (Unit × List mE)) : Nat → Nat → Int32 → Int32 → List mE → Option (Unit × List mE)
  | 0, _, _, _, _ => none
  | f + 1, v0, v1, v2, hp =>
    (gfi 3 0 hp v0).bind fun x1 =>
    if mc2 .ge v2 x1 = true then
      rc27 v0 (v1 + 1) hp
    else
      (e32 F v1 v2 hp).bind fun q3 =>
      (rcv 3 q3.2 v0).bind fun u5 =>
      (e34 F v0 v1 v2 q3.1 q3.2).bind fun q4 =>
      m31_37 F rc27 f v0 v1 (v2 + 1) q4.2
theorem t31_37 {d n : Nat} (hd : 2 ≤ d) (F : Nat) {rc27 : Nat → Int32 → List mE → Option (Unit × List mE)} (hr27 : ∀ (v0 : Nat) (v1 : Int32) (lv : List (Nat × Value)) (hp : List mE) (v : Unit) (hp' : List mE), alk 0 lv = some (.ref v0) → alk 1 lv = some (.int v1) → lvk n lv → hp.length = n → v0 < n → rc27 v0 v1 hp = some (v, hp') → Ra d 31 27 lv [] hp (none) hp') : ∀ f : Nat, ∀ (v0 : Nat) (v1 : Int32) (v2 : Int32) (lv : List (Nat × Value)) (hp : List mE) (v : Unit) (hp' : List mE), alk 0 lv = some (.ref v0) → alk 1 lv = some (.int v1) → alk 2 lv = some (.int v2) → lvk n lv → hp.length = n → v0 < n → m31_37 F rc27 f v0 v1 v2 hp = some (v, hp') → Ra d 31 37 lv [] hp (none) hp' := by
  obtain ⟨d', rfl⟩ : ∃ d', d = d' + 1 := ⟨d - 1, by omega⟩
  intro f
  induction f with
  | zero => intro v0 v1 v2 lv hp v hp' l0 l1 l2 ok hn r_v0 h; cases h
  | succ f hr37 =>
    intro v0 v1 v2 lv hp v hp' l0 l1 l2 ok hn r_v0 h
    unfold m31_37 at h
    refine Ra.of (fun c w r g => Rn.iload_n n31_37 l2 g) ?_
    refine Ra.of (fun c w r g => Rn.aload_n n31_38 l0 g) ?_
    obtain ⟨x1, hx1, h⟩ := Option.bind_eq_some_iff.mp h
    refine Ra.of (fun c w r g => Rn.gf n31_39 mo31 fl3_18 (gfi_v hx1) g) ?_
    by_cases hc2 : mc2 .ge v2 x1 = true
    · rw [if_pos hc2] at h
      refine Ra.of (fun c w r g => Rn.c2t (t := 62) n31_42 (by decide) hc2 g) ?_
      refine Ra.ii (m := n) (u := 1) n31_62 ml31 (by decide) (by decide) l1 (fun lv l1 hk hok => ?_)
      have l0 := hk 0 _ (by decide) (Or.inl rfl) l0
      have l2 := hk 2 _ (by decide) (Or.inl rfl) l2
      have ok := hok ok
      refine Ra.of (fun c w r g => Rn.goto (t := 27) n31_65 (by decide) g) ?_
      exact hr27 _ _ lv _ _ _ l0 l1 ok hn r_v0  h
    · rw [if_neg hc2] at h
      refine Ra.of (fun c w r g => Rn.c2f (t := 62) n31_42 (by decide) hc2 g) ?_
      refine Ra.of (fun c w r g => Rn.aload_n n31_45 l0 g) ?_
      refine Ra.of (fun c w r g => Rn.iload_n n31_46 l1 g) ?_
      refine Ra.of (fun c w r g => Rn.iload_n n31_47 l2 g) ?_
      refine Ra.of (fun c w r g => Rn.iload_n n31_48 l1 g) ?_
      refine Ra.of (fun c w r g => Rn.iload_n n31_49 l2 g) ?_
      obtain ⟨q3, hq3, h⟩ := Option.bind_eq_some_iff.mp h
      have gq3 := c32 (d := d') (by omega) F _ _ _ _ _  hq3
      refine Ra.of (fun c w r g => Rn.cs (as := [.int v1, .int v2]) (rr := [.int v2, .int v1, .ref v0]) n31_50 mo31 mm3_22 mq32 rfl rfl rfl rfl (Nat.le_of_ble_eq_true rfl) (by rw [hn]; exact (okc rfl (okc rfl okn))) (by rw [hn]; exact (okc rfl (okc rfl (okc (okr r_v0) okn)))) (by rw [hn]; exact ok) (by rw [ml32]; exact Nat.le_of_ble_eq_true rfl) gq3 g) ?_
      have hn := (Rn.len gq3).trans hn
      show Ra _ 31 53 lv [.int q3.1, .int v2, .int v1, .ref v0] q3.2 _ _
      obtain ⟨u5, hu5, h⟩ := Option.bind_eq_some_iff.mp h
      obtain ⟨q4, hq4, h⟩ := Option.bind_eq_some_iff.mp h
      have gq4 := c34 (d := d') (by omega) F _ _ _ _ _ _ _ (by rw [hn]; exact r_v0) hq4
      refine Ra.of (fun c w r g => Rn.cv (As := [.int v1, .int v2, .int q3.1]) (rr := []) n31_53 mo31 mm3_26 (by decide) mq34 rfl rfl rfl rfl (by rw [mo34]; exact hu5) (Nat.le_of_ble_eq_true rfl) (by rw [hn]; exact (okc (okr r_v0) (okc rfl (okc rfl (okc rfl okn))))) (by rw [hn]; exact okn) (by rw [hn]; exact ok) (by rw [ml34]; exact Nat.le_of_ble_eq_true rfl) gq4 g) ?_
      have hn := (Rn.len gq4).trans hn
      show Ra _ 31 56 lv [] q4.2 _ _
      refine Ra.ii (m := n) (u := 1) n31_56 ml31 (by decide) (by decide) l2 (fun lv l2 hk hok => ?_)
      have l0 := hk 0 _ (by decide) (Or.inl rfl) l0
      have l1 := hk 1 _ (by decide) (Or.inl rfl) l1
      have ok := hok ok
      refine Ra.of (fun c w r g => Rn.goto (t := 37) n31_59 (by decide) g) ?_
      exact hr37 _ _ _ lv _ _ _ l0 l1 l2 ok hn r_v0  h
def m31_27 (F : Nat) : Nat → Nat → Int32 → List mE → Option (Unit × List mE)
  | 0, _, _, _ => none
  | f + 1, v0, v1, hp =>
    (gfi 3 0 hp v0).bind fun x1 =>
    if mc2 .ge v1 x1 = true then
      some ((), hp)
    else
      m31_37 F (m31_27 F f) F v0 v1 0 hp
theorem t31_27 {d n : Nat} (hd : 2 ≤ d) (F : Nat) : ∀ f : Nat, ∀ (v0 : Nat) (v1 : Int32) (lv : List (Nat × Value)) (hp : List mE) (v : Unit) (hp' : List mE), alk 0 lv = some (.ref v0) → alk 1 lv = some (.int v1) → lvk n lv → hp.length = n → v0 < n → m31_27 F f v0 v1 hp = some (v, hp') → Ra d 31 27 lv [] hp (none) hp' := by
  obtain ⟨d', rfl⟩ : ∃ d', d = d' + 1 := ⟨d - 1, by omega⟩
  intro f
  induction f with
  | zero => intro v0 v1 lv hp v hp' l0 l1 ok hn r_v0 h; cases h
  | succ f hr27 =>
    intro v0 v1 lv hp v hp' l0 l1 ok hn r_v0 h
    unfold m31_27 at h
    refine Ra.of (fun c w r g => Rn.iload_n n31_27 l1 g) ?_
    refine Ra.of (fun c w r g => Rn.aload_n n31_28 l0 g) ?_
    obtain ⟨x1, hx1, h⟩ := Option.bind_eq_some_iff.mp h
    refine Ra.of (fun c w r g => Rn.gf n31_29 mo31 fl3_18 (gfi_v hx1) g) ?_
    by_cases hc2 : mc2 .ge v1 x1 = true
    · rw [if_pos hc2] at h
      refine Ra.of (fun c w r g => Rn.c2t (t := 68) n31_32 (by decide) hc2 g) ?_
      have e1 := (Prod.mk.inj (Option.some.inj h)).1
      have e2 := (Prod.mk.inj (Option.some.inj h)).2
      subst e1
      subst e2
      exact Ra.ret (fun c w => Rn.vret n31_68 mr31)
    · rw [if_neg hc2] at h
      refine Ra.of (fun c w r g => Rn.c2f (t := 68) n31_32 (by decide) hc2 g) ?_
      refine Ra.of (fun c w r g => Rn.ic (v := 0) n31_35 (by decide) g) ?_
      refine Ra.isn (m := n) n31_36 rfl ml31 (by decide) (fun lv l2 hk hok => ?_)
      have l0 := hk 0 _ (by decide) (Or.inl rfl) l0
      have l1 := hk 1 _ (by decide) (Or.inl rfl) l1
      have ok := hok ok
      exact t31_37 hd F hr27 F _ _ _ lv _ _ _ l0 l1 l2 ok hn r_v0  h
def m31_0 (F : Nat) (v0 : Nat) (hp : List mE) : Option (Unit × List mE) :=
  (nwI hp 25).bind fun hp1 =>
  (pfv 3 1 hp1 v0 (.ref hp.length)).bind fun hp3 =>
  (nwI hp3 25).bind fun hp4 =>
  (pfv 3 2 hp4 v0 (.ref hp3.length)).bind fun hp6 =>
  (pfv 3 0 hp6 v0 (.int 3)).bind fun hp7 =>
  m31_27 F F v0 0 hp7
theorem t31_0 {d n : Nat} (hd : 2 ≤ d) (F : Nat) : ∀ (v0 : Nat) (lv : List (Nat × Value)) (hp : List mE) (v : Unit) (hp' : List mE), alk 0 lv = some (.ref v0) → lvk n lv → hp.length = n → v0 < n → m31_0 F v0 hp = some (v, hp') → Ra d 31 0 lv [] hp (none) hp' := by
  obtain ⟨d', rfl⟩ : ∃ d', d = d' + 1 := ⟨d - 1, by omega⟩
  intro v0 lv hp v hp' l0 ok hn r_v0 h
  unfold m31_0 at h
  refine Ra.of (fun c w r g => Rn.aload_n n31_0 l0 g) ?_
  refine Ra.of (fun c w r g => Rn.oi n31_1 mo31 mm3_3 (Nat.le_of_ble_eq_true rfl) rfl g) ?_
  refine Ra.of (fun c w r g => Rn.aload_n n31_4 l0 g) ?_
  refine Ra.of (fun c w r g => Rn.bp (v := 25) n31_5 (by decide) g) ?_
  obtain ⟨hp1, hhp1, h⟩ := Option.bind_eq_some_iff.mp h
  refine Ra.nI n31_7 hhp1 (by rw [hn]; exact ok) (by rw [hn]; exact (okc (okr r_v0) okn)) ?_ 
  have rn2 : hp.length < hp1.length := by rw [nwI_len hhp1]; exact Nat.lt_succ_self _
  have hle : n ≤ hp1.length := by rw [nwI_len hhp1, hn]; exact Nat.le_succ _
  have r_v0 := Nat.lt_of_lt_of_le r_v0 hle
  have ok := lvk_mono hle ok
  have hn : hp1.length = hp1.length := rfl
  obtain ⟨hp3, hhp3, h⟩ := Option.bind_eq_some_iff.mp h
  refine Ra.of (fun c w r g => Rn.pfF n31_9 mo31 fl3_9 ft3_1 rfl mi31 rfl hhp3 g) ?_
  have hn := (pfv_len hhp3).trans hn
  refine Ra.of (fun c w r g => Rn.aload_n n31_12 l0 g) ?_
  refine Ra.of (fun c w r g => Rn.bp (v := 25) n31_13 (by decide) g) ?_
  obtain ⟨hp4, hhp4, h⟩ := Option.bind_eq_some_iff.mp h
  refine Ra.nI n31_15 hhp4 (by rw [hn]; exact ok) (by rw [hn]; exact (okc (okr r_v0) okn)) ?_ 
  have rn5 : hp3.length < hp4.length := by rw [nwI_len hhp4]; exact Nat.lt_succ_self _
  have hle : hp1.length ≤ hp4.length := by rw [nwI_len hhp4, hn]; exact Nat.le_succ _
  have rn2 := Nat.lt_of_lt_of_le rn2 hle
  have r_v0 := Nat.lt_of_lt_of_le r_v0 hle
  have ok := lvk_mono hle ok
  have hn : hp4.length = hp4.length := rfl
  obtain ⟨hp6, hhp6, h⟩ := Option.bind_eq_some_iff.mp h
  refine Ra.of (fun c w r g => Rn.pfF n31_17 mo31 fl3_15 ft3_2 rfl mi31 rfl hhp6 g) ?_
  have hn := (pfv_len hhp6).trans hn
  refine Ra.of (fun c w r g => Rn.aload_n n31_20 l0 g) ?_
  refine Ra.of (fun c w r g => Rn.ic (v := 3) n31_21 (by decide) g) ?_
  obtain ⟨hp7, hhp7, h⟩ := Option.bind_eq_some_iff.mp h
  refine Ra.of (fun c w r g => Rn.pf n31_22 mo31 fl3_18 ft3_0 rfl ff3_0 (fun _ _ hh => by cases hh) hhp7 g) ?_
  have hn := (pfv_len hhp7).trans hn
  refine Ra.of (fun c w r g => Rn.ic (v := 0) n31_25 (by decide) g) ?_
  refine Ra.isn (m := hp4.length) n31_26 rfl ml31 (by decide) (fun lv l1 hk hok => ?_)
  have l0 := hk 0 _ (by decide) (Or.inl rfl) l0
  have ok := hok ok
  exact t31_27 hd F  F _ _ lv _ _ _ l0 l1 ok hn r_v0  h
def e31 (F : Nat) (a0 : Nat) (hp : List mE) : Option (Unit × List mE) := m31_0 F a0 hp
theorem a31 {d : Nat} (hd : 2 ≤ d) (F : Nat) (a0 : Nat) (hp : List mE) (v : Unit) (hp' : List mE) (ra0 : a0 < hp.length) (h : e31 F a0 hp = some (v, hp')) : Ra d 31 0 (lv_args 0 [.ref a0]) [] hp (none) hp' :=
  t31_0 (n := hp.length) hd F a0 (lv_args 0 [.ref a0]) hp v hp' rfl (lvk_args (okc (okr ra0) okn)) rfl ra0 h
/-! MirrorRoots$Paths.<init> -/
def m47_0 (F : Nat) (v0 : Nat) (v1 : Nat) (v2 : Nat) (hp : List mE) : Option (Unit × List mE) :=
  (nwJ hp 45).bind fun hp1 =>
  (pfv 4 2 hp1 v0 (.ref hp.length)).bind fun hp3 =>
  (nwI hp3 9).bind fun hp4 =>
  (pfv 4 3 hp4 v0 (.ref hp3.length)).bind fun hp6 =>
  (pfv 4 0 hp6 v0 (.ref v1)).bind fun hp7 =>
  (pfv 4 1 hp7 v0 (.ref v2)).bind fun hp8 =>
  some ((), hp8)
theorem t47_0 {d n : Nat} (hd : 1 ≤ d) (F : Nat) : ∀ (v0 : Nat) (v1 : Nat) (v2 : Nat) (lv : List (Nat × Value)) (hp : List mE) (v : Unit) (hp' : List mE), alk 0 lv = some (.ref v0) → alk 1 lv = some (.ref v1) → alk 2 lv = some (.ref v2) → lvk n lv → hp.length = n → v0 < n → v1 < n → v2 < n → m47_0 F v0 v1 v2 hp = some (v, hp') → Ra d 47 0 lv [] hp (none) hp' := by
  obtain ⟨d', rfl⟩ : ∃ d', d = d' + 1 := ⟨d - 1, by omega⟩
  intro v0 v1 v2 lv hp v hp' l0 l1 l2 ok hn r_v0 r_v1 r_v2 h
  unfold m47_0 at h
  refine Ra.of (fun c w r g => Rn.aload_n n47_0 l0 g) ?_
  refine Ra.of (fun c w r g => Rn.oi n47_1 mo47 mm4_3 (Nat.le_of_ble_eq_true rfl) rfl g) ?_
  refine Ra.of (fun c w r g => Rn.aload_n n47_4 l0 g) ?_
  refine Ra.of (fun c w r g => Rn.bp (v := 45) n47_5 (by decide) g) ?_
  obtain ⟨hp1, hhp1, h⟩ := Option.bind_eq_some_iff.mp h
  refine Ra.nJ n47_7 hhp1 (by rw [hn]; exact ok) (by rw [hn]; exact (okc (okr r_v0) okn)) ?_ 
  have rn2 : hp.length < hp1.length := by rw [nwJ_len hhp1]; exact Nat.lt_succ_self _
  have hle : n ≤ hp1.length := by rw [nwJ_len hhp1, hn]; exact Nat.le_succ _
  have r_v0 := Nat.lt_of_lt_of_le r_v0 hle
  have r_v1 := Nat.lt_of_lt_of_le r_v1 hle
  have r_v2 := Nat.lt_of_lt_of_le r_v2 hle
  have ok := lvk_mono hle ok
  have hn : hp1.length = hp1.length := rfl
  obtain ⟨hp3, hhp3, h⟩ := Option.bind_eq_some_iff.mp h
  refine Ra.of (fun c w r g => Rn.pfF n47_9 mo47 fl4_9 ft4_2 rfl mi47 rfl hhp3 g) ?_
  have hn := (pfv_len hhp3).trans hn
  refine Ra.of (fun c w r g => Rn.aload_n n47_12 l0 g) ?_
  refine Ra.of (fun c w r g => Rn.bp (v := 9) n47_13 (by decide) g) ?_
  obtain ⟨hp4, hhp4, h⟩ := Option.bind_eq_some_iff.mp h
  refine Ra.nI n47_15 hhp4 (by rw [hn]; exact ok) (by rw [hn]; exact (okc (okr r_v0) okn)) ?_ 
  have rn5 : hp3.length < hp4.length := by rw [nwI_len hhp4]; exact Nat.lt_succ_self _
  have hle : hp1.length ≤ hp4.length := by rw [nwI_len hhp4, hn]; exact Nat.le_succ _
  have rn2 := Nat.lt_of_lt_of_le rn2 hle
  have r_v0 := Nat.lt_of_lt_of_le r_v0 hle
  have r_v1 := Nat.lt_of_lt_of_le r_v1 hle
  have r_v2 := Nat.lt_of_lt_of_le r_v2 hle
  have ok := lvk_mono hle ok
  have hn : hp4.length = hp4.length := rfl
  obtain ⟨hp6, hhp6, h⟩ := Option.bind_eq_some_iff.mp h
  refine Ra.of (fun c w r g => Rn.pfF n47_17 mo47 fl4_15 ft4_3 rfl mi47 rfl hhp6 g) ?_
  have hn := (pfv_len hhp6).trans hn
  refine Ra.of (fun c w r g => Rn.aload_n n47_20 l0 g) ?_
  refine Ra.of (fun c w r g => Rn.aload_n n47_21 l1 g) ?_
  obtain ⟨hp7, hhp7, h⟩ := Option.bind_eq_some_iff.mp h
  refine Ra.of (fun c w r g => Rn.pfF n47_22 mo47 fl4_19 ft4_0 rfl mi47 rfl hhp7 g) ?_
  have hn := (pfv_len hhp7).trans hn
  refine Ra.of (fun c w r g => Rn.aload_n n47_25 l0 g) ?_
  refine Ra.of (fun c w r g => Rn.aload_n n47_26 l2 g) ?_
  obtain ⟨hp8, hhp8, h⟩ := Option.bind_eq_some_iff.mp h
  refine Ra.of (fun c w r g => Rn.pfF n47_27 mo47 fl4_23 ft4_1 rfl mi47 rfl hhp8 g) ?_
  have hn := (pfv_len hhp8).trans hn
  have e1 := (Prod.mk.inj (Option.some.inj h)).1
  have e2 := (Prod.mk.inj (Option.some.inj h)).2
  subst e1
  subst e2
  exact Ra.ret (fun c w => Rn.vret n47_30 mr47)
def e47 (F : Nat) (a0 : Nat) (a1 : Nat) (a2 : Nat) (hp : List mE) : Option (Unit × List mE) := m47_0 F a0 a1 a2 hp
theorem a47 {d : Nat} (hd : 1 ≤ d) (F : Nat) (a0 : Nat) (a1 : Nat) (a2 : Nat) (hp : List mE) (v : Unit) (hp' : List mE) (ra0 : a0 < hp.length) (ra1 : a1 < hp.length) (ra2 : a2 < hp.length) (h : e47 F a0 a1 a2 hp = some (v, hp')) : Ra d 47 0 (lv_args 0 [.ref a0, .ref a1, .ref a2]) [] hp (none) hp' :=
  t47_0 (n := hp.length) hd F a0 a1 a2 (lv_args 0 [.ref a0, .ref a1, .ref a2]) hp v hp' rfl rfl rfl (lvk_args (okc (okr ra0) (okc (okr ra1) (okc (okr ra2) okn)))) rfl ra0 ra1 ra2 h
/-! MirrorRoots$Roots.<init> -/
def m51_0 (F : Nat) (v0 : Nat) (v1 : Nat) (v2 : Nat) (hp : List mE) : Option (Unit × List mE) :=
  (nwJ hp 5).bind fun hp1 =>
  (pfv 5 2 hp1 v0 (.ref hp.length)).bind fun hp3 =>
  (nwJ hp3 25).bind fun hp4 =>
  (pfv 5 3 hp4 v0 (.ref hp3.length)).bind fun hp6 =>
  (pfv 5 0 hp6 v0 (.ref v1)).bind fun hp7 =>
  (pfv 5 1 hp7 v0 (.ref v2)).bind fun hp8 =>
  some ((), hp8)
theorem t51_0 {d n : Nat} (hd : 1 ≤ d) (F : Nat) : ∀ (v0 : Nat) (v1 : Nat) (v2 : Nat) (lv : List (Nat × Value)) (hp : List mE) (v : Unit) (hp' : List mE), alk 0 lv = some (.ref v0) → alk 1 lv = some (.ref v1) → alk 2 lv = some (.ref v2) → lvk n lv → hp.length = n → v0 < n → v1 < n → v2 < n → m51_0 F v0 v1 v2 hp = some (v, hp') → Ra d 51 0 lv [] hp (none) hp' := by
  obtain ⟨d', rfl⟩ : ∃ d', d = d' + 1 := ⟨d - 1, by omega⟩
  intro v0 v1 v2 lv hp v hp' l0 l1 l2 ok hn r_v0 r_v1 r_v2 h
  unfold m51_0 at h
  refine Ra.of (fun c w r g => Rn.aload_n n51_0 l0 g) ?_
  refine Ra.of (fun c w r g => Rn.oi n51_1 mo51 mm5_3 (Nat.le_of_ble_eq_true rfl) rfl g) ?_
  refine Ra.of (fun c w r g => Rn.aload_n n51_4 l0 g) ?_
  refine Ra.of (fun c w r g => Rn.ic (v := 5) n51_5 (by decide) g) ?_
  obtain ⟨hp1, hhp1, h⟩ := Option.bind_eq_some_iff.mp h
  refine Ra.nJ n51_6 hhp1 (by rw [hn]; exact ok) (by rw [hn]; exact (okc (okr r_v0) okn)) ?_ 
  have rn2 : hp.length < hp1.length := by rw [nwJ_len hhp1]; exact Nat.lt_succ_self _
  have hle : n ≤ hp1.length := by rw [nwJ_len hhp1, hn]; exact Nat.le_succ _
  have r_v0 := Nat.lt_of_lt_of_le r_v0 hle
  have r_v1 := Nat.lt_of_lt_of_le r_v1 hle
  have r_v2 := Nat.lt_of_lt_of_le r_v2 hle
  have ok := lvk_mono hle ok
  have hn : hp1.length = hp1.length := rfl
  obtain ⟨hp3, hhp3, h⟩ := Option.bind_eq_some_iff.mp h
  refine Ra.of (fun c w r g => Rn.pfF n51_8 mo51 fl5_9 ft5_2 rfl mi51 rfl hhp3 g) ?_
  have hn := (pfv_len hhp3).trans hn
  refine Ra.of (fun c w r g => Rn.aload_n n51_11 l0 g) ?_
  refine Ra.of (fun c w r g => Rn.bp (v := 25) n51_12 (by decide) g) ?_
  obtain ⟨hp4, hhp4, h⟩ := Option.bind_eq_some_iff.mp h
  refine Ra.nJ n51_14 hhp4 (by rw [hn]; exact ok) (by rw [hn]; exact (okc (okr r_v0) okn)) ?_ 
  have rn5 : hp3.length < hp4.length := by rw [nwJ_len hhp4]; exact Nat.lt_succ_self _
  have hle : hp1.length ≤ hp4.length := by rw [nwJ_len hhp4, hn]; exact Nat.le_succ _
  have rn2 := Nat.lt_of_lt_of_le rn2 hle
  have r_v0 := Nat.lt_of_lt_of_le r_v0 hle
  have r_v1 := Nat.lt_of_lt_of_le r_v1 hle
  have r_v2 := Nat.lt_of_lt_of_le r_v2 hle
  have ok := lvk_mono hle ok
  have hn : hp4.length = hp4.length := rfl
  obtain ⟨hp6, hhp6, h⟩ := Option.bind_eq_some_iff.mp h
  refine Ra.of (fun c w r g => Rn.pfF n51_16 mo51 fl5_15 ft5_3 rfl mi51 rfl hhp6 g) ?_
  have hn := (pfv_len hhp6).trans hn
  refine Ra.of (fun c w r g => Rn.aload_n n51_19 l0 g) ?_
  refine Ra.of (fun c w r g => Rn.aload_n n51_20 l1 g) ?_
  obtain ⟨hp7, hhp7, h⟩ := Option.bind_eq_some_iff.mp h
  refine Ra.of (fun c w r g => Rn.pfF n51_21 mo51 fl5_18 ft5_0 rfl mi51 rfl hhp7 g) ?_
  have hn := (pfv_len hhp7).trans hn
  refine Ra.of (fun c w r g => Rn.aload_n n51_24 l0 g) ?_
  refine Ra.of (fun c w r g => Rn.aload_n n51_25 l2 g) ?_
  obtain ⟨hp8, hhp8, h⟩ := Option.bind_eq_some_iff.mp h
  refine Ra.of (fun c w r g => Rn.pfF n51_26 mo51 fl5_22 ft5_1 rfl mi51 rfl hhp8 g) ?_
  have hn := (pfv_len hhp8).trans hn
  have e1 := (Prod.mk.inj (Option.some.inj h)).1
  have e2 := (Prod.mk.inj (Option.some.inj h)).2
  subst e1
  subst e2
  exact Ra.ret (fun c w => Rn.vret n51_29 mr51)
def e51 (F : Nat) (a0 : Nat) (a1 : Nat) (a2 : Nat) (hp : List mE) : Option (Unit × List mE) := m51_0 F a0 a1 a2 hp
theorem a51 {d : Nat} (hd : 1 ≤ d) (F : Nat) (a0 : Nat) (a1 : Nat) (a2 : Nat) (hp : List mE) (v : Unit) (hp' : List mE) (ra0 : a0 < hp.length) (ra1 : a1 < hp.length) (ra2 : a2 < hp.length) (h : e51 F a0 a1 a2 hp = some (v, hp')) : Ra d 51 0 (lv_args 0 [.ref a0, .ref a1, .ref a2]) [] hp (none) hp' :=
  t51_0 (n := hp.length) hd F a0 a1 a2 (lv_args 0 [.ref a0, .ref a1, .ref a2]) hp v hp' rfl rfl rfl (lvk_args (okc (okr ra0) (okc (okr ra1) (okc (okr ra2) okn)))) rfl ra0 ra1 ra2 h
/-! MirrorRoots$Shifts.<init> -/
def m68_0 (F : Nat) (v0 : Nat) (v1 : Nat) (v2 : Nat) (hp : List mE) : Option (Unit × List mE) :=
  (nwJ hp 7500).bind fun hp1 =>
  (pfv 7 3 hp1 v0 (.ref hp.length)).bind fun hp3 =>
  (nwJ hp3 5).bind fun hp4 =>
  (pfv 7 4 hp4 v0 (.ref hp3.length)).bind fun hp6 =>
  (pfv 7 5 hp6 v0 (.int ((-1)))).bind fun hp7 =>
  (pfv 7 0 hp7 v0 (.ref v1)).bind fun hp8 =>
  (pfv 7 1 hp8 v0 (.ref v2)).bind fun hp9 =>
  (nwO 6 hp9).bind fun hp10 =>
  (e59 F hp9.length v1 512 hp10).bind fun q12 =>
  (pfv 7 2 q12.2 v0 (.ref hp9.length)).bind fun hp13 =>
  some ((), hp13)
theorem t68_0 {d n : Nat} (hd : 2 ≤ d) (F : Nat) : ∀ (v0 : Nat) (v1 : Nat) (v2 : Nat) (lv : List (Nat × Value)) (hp : List mE) (v : Unit) (hp' : List mE), alk 0 lv = some (.ref v0) → alk 1 lv = some (.ref v1) → alk 2 lv = some (.ref v2) → lvk n lv → hp.length = n → v0 < n → v1 < n → v2 < n → m68_0 F v0 v1 v2 hp = some (v, hp') → Ra d 68 0 lv [] hp (none) hp' := by
  obtain ⟨d', rfl⟩ : ∃ d', d = d' + 1 := ⟨d - 1, by omega⟩
  intro v0 v1 v2 lv hp v hp' l0 l1 l2 ok hn r_v0 r_v1 r_v2 h
  unfold m68_0 at h
  refine Ra.of (fun c w r g => Rn.aload_n n68_0 l0 g) ?_
  refine Ra.of (fun c w r g => Rn.oi n68_1 mo68 mm7_3 (Nat.le_of_ble_eq_true rfl) rfl g) ?_
  refine Ra.of (fun c w r g => Rn.aload_n n68_4 l0 g) ?_
  refine Ra.of (fun c w r g => Rn.sp (v := 7500) n68_5 (by decide) g) ?_
  obtain ⟨hp1, hhp1, h⟩ := Option.bind_eq_some_iff.mp h
  refine Ra.nJ n68_8 hhp1 (by rw [hn]; exact ok) (by rw [hn]; exact (okc (okr r_v0) okn)) ?_ 
  have rn2 : hp.length < hp1.length := by rw [nwJ_len hhp1]; exact Nat.lt_succ_self _
  have hle : n ≤ hp1.length := by rw [nwJ_len hhp1, hn]; exact Nat.le_succ _
  have r_v0 := Nat.lt_of_lt_of_le r_v0 hle
  have r_v1 := Nat.lt_of_lt_of_le r_v1 hle
  have r_v2 := Nat.lt_of_lt_of_le r_v2 hle
  have ok := lvk_mono hle ok
  have hn : hp1.length = hp1.length := rfl
  obtain ⟨hp3, hhp3, h⟩ := Option.bind_eq_some_iff.mp h
  refine Ra.of (fun c w r g => Rn.pfF n68_10 mo68 fl7_11 ft7_3 rfl mi68 rfl hhp3 g) ?_
  have hn := (pfv_len hhp3).trans hn
  refine Ra.of (fun c w r g => Rn.aload_n n68_13 l0 g) ?_
  refine Ra.of (fun c w r g => Rn.ic (v := 5) n68_14 (by decide) g) ?_
  obtain ⟨hp4, hhp4, h⟩ := Option.bind_eq_some_iff.mp h
  refine Ra.nJ n68_15 hhp4 (by rw [hn]; exact ok) (by rw [hn]; exact (okc (okr r_v0) okn)) ?_ 
  have rn5 : hp3.length < hp4.length := by rw [nwJ_len hhp4]; exact Nat.lt_succ_self _
  have hle : hp1.length ≤ hp4.length := by rw [nwJ_len hhp4, hn]; exact Nat.le_succ _
  have rn2 := Nat.lt_of_lt_of_le rn2 hle
  have r_v0 := Nat.lt_of_lt_of_le r_v0 hle
  have r_v1 := Nat.lt_of_lt_of_le r_v1 hle
  have r_v2 := Nat.lt_of_lt_of_le r_v2 hle
  have ok := lvk_mono hle ok
  have hn : hp4.length = hp4.length := rfl
  obtain ⟨hp6, hhp6, h⟩ := Option.bind_eq_some_iff.mp h
  refine Ra.of (fun c w r g => Rn.pfF n68_17 mo68 fl7_15 ft7_4 rfl mi68 rfl hhp6 g) ?_
  have hn := (pfv_len hhp6).trans hn
  refine Ra.of (fun c w r g => Rn.aload_n n68_20 l0 g) ?_
  refine Ra.of (fun c w r g => Rn.ic (v := (-1)) n68_21 (by decide) g) ?_
  obtain ⟨hp7, hhp7, h⟩ := Option.bind_eq_some_iff.mp h
  refine Ra.of (fun c w r g => Rn.pf n68_22 mo68 fl7_18 ft7_5 rfl ff7_5 (fun _ _ hh => by cases hh) hhp7 g) ?_
  have hn := (pfv_len hhp7).trans hn
  refine Ra.of (fun c w r g => Rn.aload_n n68_25 l0 g) ?_
  refine Ra.of (fun c w r g => Rn.aload_n n68_26 l1 g) ?_
  obtain ⟨hp8, hhp8, h⟩ := Option.bind_eq_some_iff.mp h
  refine Ra.of (fun c w r g => Rn.pfF n68_27 mo68 fl7_22 ft7_0 rfl mi68 rfl hhp8 g) ?_
  have hn := (pfv_len hhp8).trans hn
  refine Ra.of (fun c w r g => Rn.aload_n n68_30 l0 g) ?_
  refine Ra.of (fun c w r g => Rn.aload_n n68_31 l2 g) ?_
  obtain ⟨hp9, hhp9, h⟩ := Option.bind_eq_some_iff.mp h
  refine Ra.of (fun c w r g => Rn.pfF n68_32 mo68 fl7_26 ft7_1 rfl mi68 rfl hhp9 g) ?_
  have hn := (pfv_len hhp9).trans hn
  refine Ra.of (fun c w r g => Rn.aload_n n68_35 l0 g) ?_
  obtain ⟨hp10, hhp10, h⟩ := Option.bind_eq_some_iff.mp h
  refine Ra.nw n68_36 mo68 nl7_30 hhp10 (by rw [hn]; exact ok) (by rw [hn]; exact (okc (okr r_v0) okn)) ?_ 
  have rn11 : hp9.length < hp10.length := by rw [nwO_len hhp10]; exact Nat.lt_succ_self _
  have hle : hp4.length ≤ hp10.length := by rw [nwO_len hhp10, hn]; exact Nat.le_succ _
  have rn2 := Nat.lt_of_lt_of_le rn2 hle
  have rn5 := Nat.lt_of_lt_of_le rn5 hle
  have r_v0 := Nat.lt_of_lt_of_le r_v0 hle
  have r_v1 := Nat.lt_of_lt_of_le r_v1 hle
  have r_v2 := Nat.lt_of_lt_of_le r_v2 hle
  have ok := lvk_mono hle ok
  have hn : hp10.length = hp10.length := rfl
  refine Ra.of (fun c w r g => Rn.p n68_39 rfl g) ?_
  refine Ra.of (fun c w r g => Rn.aload_n n68_40 l1 g) ?_
  refine Ra.of (fun c w r g => Rn.sp (v := 512) n68_41 (by decide) g) ?_
  obtain ⟨q12, hq12, h⟩ := Option.bind_eq_some_iff.mp h
  have gq12 := a59 (d := d') (by omega) F _ _ _ _ _ _ (by rw [hn]; exact rn11) (by rw [hn]; exact r_v1) hq12
  refine Ra.call gq12 (fun c w c1 w1 r h1 g => Rn.ci (As := [.ref v1, .int 512]) (rr := [.ref hp9.length, .ref v0]) n68_44 mo68 mm7_32 mq59 rfl rfl rfl rfl (Nat.le_of_ble_eq_true rfl) (by rw [hn]; exact (okc (okr rn11) (okc (okr r_v1) (okc rfl okn)))) (by rw [hn]; exact (okc (okr rn11) (okc (okr r_v0) okn))) (by rw [hn]; exact ok) (by rw [ml59]; exact Nat.le_of_ble_eq_true rfl) h1 g) ?_ 
  have hle : hp10.length ≤ q12.2.length := by rw [← hn]; exact Ra.len gq12
  have rn2 := Nat.lt_of_lt_of_le rn2 hle
  have rn5 := Nat.lt_of_lt_of_le rn5 hle
  have rn11 := Nat.lt_of_lt_of_le rn11 hle
  have r_v0 := Nat.lt_of_lt_of_le r_v0 hle
  have r_v1 := Nat.lt_of_lt_of_le r_v1 hle
  have r_v2 := Nat.lt_of_lt_of_le r_v2 hle
  have ok := lvk_mono hle ok
  have hn : q12.2.length = q12.2.length := rfl
  show Ra _ 68 47 lv [.ref hp9.length, .ref v0] q12.2 _ _
  obtain ⟨hp13, hhp13, h⟩ := Option.bind_eq_some_iff.mp h
  refine Ra.of (fun c w r g => Rn.pfF n68_47 mo68 fl7_35 ft7_2 rfl mi68 rfl hhp13 g) ?_
  have hn := (pfv_len hhp13).trans hn
  have e1 := (Prod.mk.inj (Option.some.inj h)).1
  have e2 := (Prod.mk.inj (Option.some.inj h)).2
  subst e1
  subst e2
  exact Ra.ret (fun c w => Rn.vret n68_50 mr68)
def e68 (F : Nat) (a0 : Nat) (a1 : Nat) (a2 : Nat) (hp : List mE) : Option (Unit × List mE) := m68_0 F a0 a1 a2 hp
theorem a68 {d : Nat} (hd : 2 ≤ d) (F : Nat) (a0 : Nat) (a1 : Nat) (a2 : Nat) (hp : List mE) (v : Unit) (hp' : List mE) (ra0 : a0 < hp.length) (ra1 : a1 < hp.length) (ra2 : a2 < hp.length) (h : e68 F a0 a1 a2 hp = some (v, hp')) : Ra d 68 0 (lv_args 0 [.ref a0, .ref a1, .ref a2]) [] hp (none) hp' :=
  t68_0 (n := hp.length) hd F a0 a1 a2 (lv_args 0 [.ref a0, .ref a1, .ref a2]) hp v hp' rfl rfl rfl (lvk_args (okc (okr ra0) (okc (okr ra1) (okc (okr ra2) okn)))) rfl ra0 ra1 ra2 h
/-! MirrorRoots$Telling.<init> -/
def m76_0 (F : Nat) (v0 : Nat) (hp : List mE) : Option (Unit × List mE) :=
  (nwI hp 120).bind fun hp1 =>
  (pfv 8 0 hp1 v0 (.ref hp.length)).bind fun hp3 =>
  (pfv 8 1 hp3 v0 (.int 0)).bind fun hp4 =>
  (pfv 8 4 hp4 v0 (.int ((-1)))).bind fun hp5 =>
  (nwI hp5 25).bind fun hp6 =>
  (pfv 8 6 hp6 v0 (.ref hp5.length)).bind fun hp8 =>
  (nwZ hp8 25).bind fun hp9 =>
  (pfv 8 7 hp9 v0 (.ref hp8.length)).bind fun hp11 =>
  some ((), hp11)
theorem t76_0 {d n : Nat} (hd : 1 ≤ d) (F : Nat) : ∀ (v0 : Nat) (lv : List (Nat × Value)) (hp : List mE) (v : Unit) (hp' : List mE), alk 0 lv = some (.ref v0) → lvk n lv → hp.length = n → v0 < n → m76_0 F v0 hp = some (v, hp') → Ra d 76 0 lv [] hp (none) hp' := by
  obtain ⟨d', rfl⟩ : ∃ d', d = d' + 1 := ⟨d - 1, by omega⟩
  intro v0 lv hp v hp' l0 ok hn r_v0 h
  unfold m76_0 at h
  refine Ra.of (fun c w r g => Rn.aload_n n76_0 l0 g) ?_
  refine Ra.of (fun c w r g => Rn.oi n76_1 mo76 mm8_3 (Nat.le_of_ble_eq_true rfl) rfl g) ?_
  refine Ra.of (fun c w r g => Rn.aload_n n76_4 l0 g) ?_
  refine Ra.of (fun c w r g => Rn.bp (v := 120) n76_5 (by decide) g) ?_
  obtain ⟨hp1, hhp1, h⟩ := Option.bind_eq_some_iff.mp h
  refine Ra.nI n76_7 hhp1 (by rw [hn]; exact ok) (by rw [hn]; exact (okc (okr r_v0) okn)) ?_ 
  have rn2 : hp.length < hp1.length := by rw [nwI_len hhp1]; exact Nat.lt_succ_self _
  have hle : n ≤ hp1.length := by rw [nwI_len hhp1, hn]; exact Nat.le_succ _
  have r_v0 := Nat.lt_of_lt_of_le r_v0 hle
  have ok := lvk_mono hle ok
  have hn : hp1.length = hp1.length := rfl
  obtain ⟨hp3, hhp3, h⟩ := Option.bind_eq_some_iff.mp h
  refine Ra.of (fun c w r g => Rn.pfF n76_9 mo76 fl8_9 ft8_0 rfl mi76 rfl hhp3 g) ?_
  have hn := (pfv_len hhp3).trans hn
  refine Ra.of (fun c w r g => Rn.aload_n n76_12 l0 g) ?_
  refine Ra.of (fun c w r g => Rn.ic (v := 0) n76_13 (by decide) g) ?_
  obtain ⟨hp4, hhp4, h⟩ := Option.bind_eq_some_iff.mp h
  refine Ra.of (fun c w r g => Rn.pf n76_14 mo76 fl8_15 ft8_1 rfl ff8_1 (fun _ _ hh => by cases hh) hhp4 g) ?_
  have hn := (pfv_len hhp4).trans hn
  refine Ra.of (fun c w r g => Rn.aload_n n76_17 l0 g) ?_
  refine Ra.of (fun c w r g => Rn.ic (v := (-1)) n76_18 (by decide) g) ?_
  obtain ⟨hp5, hhp5, h⟩ := Option.bind_eq_some_iff.mp h
  refine Ra.of (fun c w r g => Rn.pf n76_19 mo76 fl8_19 ft8_4 rfl ff8_4 (fun _ _ hh => by cases hh) hhp5 g) ?_
  have hn := (pfv_len hhp5).trans hn
  refine Ra.of (fun c w r g => Rn.aload_n n76_22 l0 g) ?_
  refine Ra.of (fun c w r g => Rn.bp (v := 25) n76_23 (by decide) g) ?_
  obtain ⟨hp6, hhp6, h⟩ := Option.bind_eq_some_iff.mp h
  refine Ra.nI n76_25 hhp6 (by rw [hn]; exact ok) (by rw [hn]; exact (okc (okr r_v0) okn)) ?_ 
  have rn7 : hp5.length < hp6.length := by rw [nwI_len hhp6]; exact Nat.lt_succ_self _
  have hle : hp1.length ≤ hp6.length := by rw [nwI_len hhp6, hn]; exact Nat.le_succ _
  have rn2 := Nat.lt_of_lt_of_le rn2 hle
  have r_v0 := Nat.lt_of_lt_of_le r_v0 hle
  have ok := lvk_mono hle ok
  have hn : hp6.length = hp6.length := rfl
  obtain ⟨hp8, hhp8, h⟩ := Option.bind_eq_some_iff.mp h
  refine Ra.of (fun c w r g => Rn.pfF n76_27 mo76 fl8_22 ft8_6 rfl mi76 rfl hhp8 g) ?_
  have hn := (pfv_len hhp8).trans hn
  refine Ra.of (fun c w r g => Rn.aload_n n76_30 l0 g) ?_
  refine Ra.of (fun c w r g => Rn.bp (v := 25) n76_31 (by decide) g) ?_
  obtain ⟨hp9, hhp9, h⟩ := Option.bind_eq_some_iff.mp h
  refine Ra.nZ n76_33 hhp9 (by rw [hn]; exact ok) (by rw [hn]; exact (okc (okr r_v0) okn)) ?_ 
  have rn10 : hp8.length < hp9.length := by rw [nwZ_len hhp9]; exact Nat.lt_succ_self _
  have hle : hp6.length ≤ hp9.length := by rw [nwZ_len hhp9, hn]; exact Nat.le_succ _
  have rn2 := Nat.lt_of_lt_of_le rn2 hle
  have rn7 := Nat.lt_of_lt_of_le rn7 hle
  have r_v0 := Nat.lt_of_lt_of_le r_v0 hle
  have ok := lvk_mono hle ok
  have hn : hp9.length = hp9.length := rfl
  obtain ⟨hp11, hhp11, h⟩ := Option.bind_eq_some_iff.mp h
  refine Ra.of (fun c w r g => Rn.pfF n76_35 mo76 fl8_25 ft8_7 rfl mi76 rfl hhp11 g) ?_
  have hn := (pfv_len hhp11).trans hn
  have e1 := (Prod.mk.inj (Option.some.inj h)).1
  have e2 := (Prod.mk.inj (Option.some.inj h)).2
  subst e1
  subst e2
  exact Ra.ret (fun c w => Rn.vret n76_38 mr76)
def e76 (F : Nat) (a0 : Nat) (hp : List mE) : Option (Unit × List mE) := m76_0 F a0 hp
theorem a76 {d : Nat} (hd : 1 ≤ d) (F : Nat) (a0 : Nat) (hp : List mE) (v : Unit) (hp' : List mE) (ra0 : a0 < hp.length) (h : e76 F a0 hp = some (v, hp')) : Ra d 76 0 (lv_args 0 [.ref a0]) [] hp (none) hp' :=
  t76_0 (n := hp.length) hd F a0 (lv_args 0 [.ref a0]) hp v hp' rfl (lvk_args (okc (okr ra0) okn)) rfl ra0 h
/-! MirrorRoots$Words.<init> -/
def m90_0 (F : Nat) (v0 : Nat) (v1 : Nat) (v2 : Nat) (hp : List mE) : Option (Unit × List mE) :=
  (nwJ hp 5).bind fun hp1 =>
  (pfv 9 2 hp1 v0 (.ref hp.length)).bind fun hp3 =>
  (nwJ hp3 5).bind fun hp4 =>
  (pfv 9 3 hp4 v0 (.ref hp3.length)).bind fun hp6 =>
  (nwI hp6 20).bind fun hp7 =>
  (pfv 9 4 hp7 v0 (.ref hp6.length)).bind fun hp9 =>
  (nwI hp9 20).bind fun hp10 =>
  (pfv 9 5 hp10 v0 (.ref hp9.length)).bind fun hp12 =>
  (pfv 9 0 hp12 v0 (.ref v1)).bind fun hp13 =>
  (pfv 9 1 hp13 v0 (.ref v2)).bind fun hp14 =>
  some ((), hp14)
theorem t90_0 {d n : Nat} (hd : 1 ≤ d) (F : Nat) : ∀ (v0 : Nat) (v1 : Nat) (v2 : Nat) (lv : List (Nat × Value)) (hp : List mE) (v : Unit) (hp' : List mE), alk 0 lv = some (.ref v0) → alk 1 lv = some (.ref v1) → alk 2 lv = some (.ref v2) → lvk n lv → hp.length = n → v0 < n → v1 < n → v2 < n → m90_0 F v0 v1 v2 hp = some (v, hp') → Ra d 90 0 lv [] hp (none) hp' := by
  obtain ⟨d', rfl⟩ : ∃ d', d = d' + 1 := ⟨d - 1, by omega⟩
  intro v0 v1 v2 lv hp v hp' l0 l1 l2 ok hn r_v0 r_v1 r_v2 h
  unfold m90_0 at h
  refine Ra.of (fun c w r g => Rn.aload_n n90_0 l0 g) ?_
  refine Ra.of (fun c w r g => Rn.oi n90_1 mo90 mm9_3 (Nat.le_of_ble_eq_true rfl) rfl g) ?_
  refine Ra.of (fun c w r g => Rn.aload_n n90_4 l0 g) ?_
  refine Ra.of (fun c w r g => Rn.ic (v := 5) n90_5 (by decide) g) ?_
  obtain ⟨hp1, hhp1, h⟩ := Option.bind_eq_some_iff.mp h
  refine Ra.nJ n90_6 hhp1 (by rw [hn]; exact ok) (by rw [hn]; exact (okc (okr r_v0) okn)) ?_ 
  have rn2 : hp.length < hp1.length := by rw [nwJ_len hhp1]; exact Nat.lt_succ_self _
  have hle : n ≤ hp1.length := by rw [nwJ_len hhp1, hn]; exact Nat.le_succ _
  have r_v0 := Nat.lt_of_lt_of_le r_v0 hle
  have r_v1 := Nat.lt_of_lt_of_le r_v1 hle
  have r_v2 := Nat.lt_of_lt_of_le r_v2 hle
  have ok := lvk_mono hle ok
  have hn : hp1.length = hp1.length := rfl
  obtain ⟨hp3, hhp3, h⟩ := Option.bind_eq_some_iff.mp h
  refine Ra.of (fun c w r g => Rn.pfF n90_8 mo90 fl9_9 ft9_2 rfl mi90 rfl hhp3 g) ?_
  have hn := (pfv_len hhp3).trans hn
  refine Ra.of (fun c w r g => Rn.aload_n n90_11 l0 g) ?_
  refine Ra.of (fun c w r g => Rn.ic (v := 5) n90_12 (by decide) g) ?_
  obtain ⟨hp4, hhp4, h⟩ := Option.bind_eq_some_iff.mp h
  refine Ra.nJ n90_13 hhp4 (by rw [hn]; exact ok) (by rw [hn]; exact (okc (okr r_v0) okn)) ?_ 
  have rn5 : hp3.length < hp4.length := by rw [nwJ_len hhp4]; exact Nat.lt_succ_self _
  have hle : hp1.length ≤ hp4.length := by rw [nwJ_len hhp4, hn]; exact Nat.le_succ _
  have rn2 := Nat.lt_of_lt_of_le rn2 hle
  have r_v0 := Nat.lt_of_lt_of_le r_v0 hle
  have r_v1 := Nat.lt_of_lt_of_le r_v1 hle
  have r_v2 := Nat.lt_of_lt_of_le r_v2 hle
  have ok := lvk_mono hle ok
  have hn : hp4.length = hp4.length := rfl
  obtain ⟨hp6, hhp6, h⟩ := Option.bind_eq_some_iff.mp h
  refine Ra.of (fun c w r g => Rn.pfF n90_15 mo90 fl9_15 ft9_3 rfl mi90 rfl hhp6 g) ?_
  have hn := (pfv_len hhp6).trans hn
  refine Ra.of (fun c w r g => Rn.aload_n n90_18 l0 g) ?_
  refine Ra.of (fun c w r g => Rn.bp (v := 20) n90_19 (by decide) g) ?_
  obtain ⟨hp7, hhp7, h⟩ := Option.bind_eq_some_iff.mp h
  refine Ra.nI n90_21 hhp7 (by rw [hn]; exact ok) (by rw [hn]; exact (okc (okr r_v0) okn)) ?_ 
  have rn8 : hp6.length < hp7.length := by rw [nwI_len hhp7]; exact Nat.lt_succ_self _
  have hle : hp4.length ≤ hp7.length := by rw [nwI_len hhp7, hn]; exact Nat.le_succ _
  have rn2 := Nat.lt_of_lt_of_le rn2 hle
  have rn5 := Nat.lt_of_lt_of_le rn5 hle
  have r_v0 := Nat.lt_of_lt_of_le r_v0 hle
  have r_v1 := Nat.lt_of_lt_of_le r_v1 hle
  have r_v2 := Nat.lt_of_lt_of_le r_v2 hle
  have ok := lvk_mono hle ok
  have hn : hp7.length = hp7.length := rfl
  obtain ⟨hp9, hhp9, h⟩ := Option.bind_eq_some_iff.mp h
  refine Ra.of (fun c w r g => Rn.pfF n90_23 mo90 fl9_18 ft9_4 rfl mi90 rfl hhp9 g) ?_
  have hn := (pfv_len hhp9).trans hn
  refine Ra.of (fun c w r g => Rn.aload_n n90_26 l0 g) ?_
  refine Ra.of (fun c w r g => Rn.bp (v := 20) n90_27 (by decide) g) ?_
  obtain ⟨hp10, hhp10, h⟩ := Option.bind_eq_some_iff.mp h
  refine Ra.nI n90_29 hhp10 (by rw [hn]; exact ok) (by rw [hn]; exact (okc (okr r_v0) okn)) ?_ 
  have rn11 : hp9.length < hp10.length := by rw [nwI_len hhp10]; exact Nat.lt_succ_self _
  have hle : hp7.length ≤ hp10.length := by rw [nwI_len hhp10, hn]; exact Nat.le_succ _
  have rn2 := Nat.lt_of_lt_of_le rn2 hle
  have rn5 := Nat.lt_of_lt_of_le rn5 hle
  have rn8 := Nat.lt_of_lt_of_le rn8 hle
  have r_v0 := Nat.lt_of_lt_of_le r_v0 hle
  have r_v1 := Nat.lt_of_lt_of_le r_v1 hle
  have r_v2 := Nat.lt_of_lt_of_le r_v2 hle
  have ok := lvk_mono hle ok
  have hn : hp10.length = hp10.length := rfl
  obtain ⟨hp12, hhp12, h⟩ := Option.bind_eq_some_iff.mp h
  refine Ra.of (fun c w r g => Rn.pfF n90_31 mo90 fl9_22 ft9_5 rfl mi90 rfl hhp12 g) ?_
  have hn := (pfv_len hhp12).trans hn
  refine Ra.of (fun c w r g => Rn.aload_n n90_34 l0 g) ?_
  refine Ra.of (fun c w r g => Rn.aload_n n90_35 l1 g) ?_
  obtain ⟨hp13, hhp13, h⟩ := Option.bind_eq_some_iff.mp h
  refine Ra.of (fun c w r g => Rn.pfF n90_36 mo90 fl9_25 ft9_0 rfl mi90 rfl hhp13 g) ?_
  have hn := (pfv_len hhp13).trans hn
  refine Ra.of (fun c w r g => Rn.aload_n n90_39 l0 g) ?_
  refine Ra.of (fun c w r g => Rn.aload_n n90_40 l2 g) ?_
  obtain ⟨hp14, hhp14, h⟩ := Option.bind_eq_some_iff.mp h
  refine Ra.of (fun c w r g => Rn.pfF n90_41 mo90 fl9_29 ft9_1 rfl mi90 rfl hhp14 g) ?_
  have hn := (pfv_len hhp14).trans hn
  have e1 := (Prod.mk.inj (Option.some.inj h)).1
  have e2 := (Prod.mk.inj (Option.some.inj h)).2
  subst e1
  subst e2
  exact Ra.ret (fun c w => Rn.vret n90_44 mr90)
def e90 (F : Nat) (a0 : Nat) (a1 : Nat) (a2 : Nat) (hp : List mE) : Option (Unit × List mE) := m90_0 F a0 a1 a2 hp
theorem a90 {d : Nat} (hd : 1 ≤ d) (F : Nat) (a0 : Nat) (a1 : Nat) (a2 : Nat) (hp : List mE) (v : Unit) (hp' : List mE) (ra0 : a0 < hp.length) (ra1 : a1 < hp.length) (ra2 : a2 < hp.length) (h : e90 F a0 a1 a2 hp = some (v, hp')) : Ra d 90 0 (lv_args 0 [.ref a0, .ref a1, .ref a2]) [] hp (none) hp' :=
  t90_0 (n := hp.length) hd F a0 a1 a2 (lv_args 0 [.ref a0, .ref a1, .ref a2]) hp v hp' rfl rfl rfl (lvk_args (okc (okr ra0) (okc (okr ra1) (okc (okr ra2) okn)))) rfl ra0 ra1 ra2 h
/-! MirrorRoots.needLayers -/
def m128_26 (F : Nat) (v0 : Nat) (hp : List mE) : Option (Nat × List mE) :=
  (gfr 10 8 hp v0).bind fun x1 =>
  some (x1, hp)
theorem t128_26 {d n : Nat} (hd : 3 ≤ d) (F : Nat) : ∀ (v0 : Nat) (lv : List (Nat × Value)) (hp : List mE) (v : Nat) (hp' : List mE), alk 0 lv = some (.ref v0) → lvk n lv → hp.length = n → v0 < n → m128_26 F v0 hp = some (v, hp') → Ra d 128 26 lv [] hp (some (.ref v)) hp' := by
  obtain ⟨d', rfl⟩ : ∃ d', d = d' + 1 := ⟨d - 1, by omega⟩
  intro v0 lv hp v hp' l0 ok hn r_v0 h
  unfold m128_26 at h
  refine Ra.of (fun c w r g => Rn.aload_n n128_26 l0 g) ?_
  obtain ⟨x1, hx1, h⟩ := Option.bind_eq_some_iff.mp h
  refine Ra.of (fun c w r g => Rn.gf n128_27 mo128 fl10_63 (gfr_v hx1).1 g) ?_
  have r_x1 : x1 < n := by rw [← hn]; exact (gfr_v hx1).2
  have e1 := (Prod.mk.inj (Option.some.inj h)).1
  have e2 := (Prod.mk.inj (Option.some.inj h)).2
  subst e1
  subst e2
  exact Ra.ret (fun c w => Rn.aret n128_30 mr128)
def m128_0 (F : Nat) (v0 : Nat) (hp : List mE) : Option (Nat × List mE) :=
  (gfq 10 8 hp v0).bind fun x1 =>
  if x1 = none then
    (nwO 2 hp).bind fun hp3 =>
    (gfr 10 0 hp3 v0).bind fun x5 =>
    (gfr 10 2 hp3 v0).bind fun x6 =>
    (e21 F hp.length x5 x6 hp3).bind fun q7 =>
    (pfv 10 8 q7.2 v0 (.ref hp.length)).bind fun hp8 =>
    m128_26 F v0 hp8
  else
    m128_26 F v0 hp
theorem t128_0 {d n : Nat} (hd : 3 ≤ d) (F : Nat) : ∀ (v0 : Nat) (lv : List (Nat × Value)) (hp : List mE) (v : Nat) (hp' : List mE), alk 0 lv = some (.ref v0) → lvk n lv → hp.length = n → v0 < n → m128_0 F v0 hp = some (v, hp') → Ra d 128 0 lv [] hp (some (.ref v)) hp' := by
  obtain ⟨d', rfl⟩ : ∃ d', d = d' + 1 := ⟨d - 1, by omega⟩
  intro v0 lv hp v hp' l0 ok hn r_v0 h
  unfold m128_0 at h
  refine Ra.of (fun c w r g => Rn.aload_n n128_0 l0 g) ?_
  obtain ⟨x1, hx1, h⟩ := Option.bind_eq_some_iff.mp h
  by_cases hq2 : x1 = none
  · rw [if_pos hq2] at h
    refine Ra.of (fun c w r g => Rn.gf n128_1 mo128 fl10_63 (gfq_n hq2 hx1) g) ?_
    refine Ra.of (fun c w r g => Rn.nnf (t := 26) n128_4 (by decide) g) ?_
    refine Ra.of (fun c w r g => Rn.aload_n n128_7 l0 g) ?_
    obtain ⟨hp3, hhp3, h⟩ := Option.bind_eq_some_iff.mp h
    refine Ra.nw n128_8 mo128 nl10_101 hhp3 (by rw [hn]; exact ok) (by rw [hn]; exact (okc (okr r_v0) okn)) ?_ 
    have rn4 : hp.length < hp3.length := by rw [nwO_len hhp3]; exact Nat.lt_succ_self _
    have hle : n ≤ hp3.length := by rw [nwO_len hhp3, hn]; exact Nat.le_succ _
    have r_v0 := Nat.lt_of_lt_of_le r_v0 hle
    have ok := lvk_mono hle ok
    have hn : hp3.length = hp3.length := rfl
    refine Ra.of (fun c w r g => Rn.p n128_11 rfl g) ?_
    refine Ra.of (fun c w r g => Rn.aload_n n128_12 l0 g) ?_
    obtain ⟨x5, hx5, h⟩ := Option.bind_eq_some_iff.mp h
    refine Ra.of (fun c w r g => Rn.gf n128_13 mo128 fl10_12 (gfr_v hx5).1 g) ?_
    have r_x5 : x5 < hp3.length := by rw [← hn]; exact (gfr_v hx5).2
    refine Ra.of (fun c w r g => Rn.aload_n n128_16 l0 g) ?_
    obtain ⟨x6, hx6, h⟩ := Option.bind_eq_some_iff.mp h
    refine Ra.of (fun c w r g => Rn.gf n128_17 mo128 fl10_28 (gfr_v hx6).1 g) ?_
    have r_x6 : x6 < hp3.length := by rw [← hn]; exact (gfr_v hx6).2
    obtain ⟨q7, hq7, h⟩ := Option.bind_eq_some_iff.mp h
    have gq7 := a21 (d := d') (by omega) F _ _ _ _ _ _ (by rw [hn]; exact rn4) (by rw [hn]; exact r_x5) (by rw [hn]; exact r_x6) hq7
    refine Ra.call gq7 (fun c w c1 w1 r h1 g => Rn.ci (As := [.ref x5, .ref x6]) (rr := [.ref hp.length, .ref v0]) n128_20 mo128 mm10_209 mq21 rfl rfl rfl rfl (Nat.le_of_ble_eq_true rfl) (by rw [hn]; exact (okc (okr rn4) (okc (okr r_x5) (okc (okr r_x6) okn)))) (by rw [hn]; exact (okc (okr rn4) (okc (okr r_v0) okn))) (by rw [hn]; exact ok) (by rw [ml21]; exact Nat.le_of_ble_eq_true rfl) h1 g) ?_ 
    have hle : hp3.length ≤ q7.2.length := by rw [← hn]; exact Ra.len gq7
    have rn4 := Nat.lt_of_lt_of_le rn4 hle
    have r_v0 := Nat.lt_of_lt_of_le r_v0 hle
    have r_x5 := Nat.lt_of_lt_of_le r_x5 hle
    have r_x6 := Nat.lt_of_lt_of_le r_x6 hle
    have ok := lvk_mono hle ok
    have hn : q7.2.length = q7.2.length := rfl
    show Ra _ 128 23 lv [.ref hp.length, .ref v0] q7.2 _ _
    obtain ⟨hp8, hhp8, h⟩ := Option.bind_eq_some_iff.mp h
    refine Ra.of (fun c w r g => Rn.pf n128_23 mo128 fl10_63 ft10_8 rfl ff10_8 (fun _ _ hh => by cases hh) hhp8 g) ?_
    have hn := (pfv_len hhp8).trans hn
    exact t128_26 hd F  _ lv _ _ _ l0 ok hn r_v0  h
  · rw [if_neg hq2] at h
    obtain ⟨bx1, hbx1⟩ := gfq_s hq2 hx1
    refine Ra.of (fun c w r g => Rn.gf n128_1 mo128 fl10_63 hbx1 g) ?_
    refine Ra.of (fun c w r g => Rn.nnt (t := 26) n128_4 (by decide) g) ?_
    exact t128_26 hd F  _ lv _ _ _ l0 ok hn r_v0  h
def e128 (F : Nat) (a0 : Nat) (hp : List mE) : Option (Nat × List mE) := m128_0 F a0 hp
theorem a128 {d : Nat} (hd : 3 ≤ d) (F : Nat) (a0 : Nat) (hp : List mE) (v : Nat) (hp' : List mE) (ra0 : a0 < hp.length) (h : e128 F a0 hp = some (v, hp')) : Ra d 128 0 (lv_args 0 [.ref a0]) [] hp (some (.ref v)) hp' :=
  t128_0 (n := hp.length) hd F a0 (lv_args 0 [.ref a0]) hp v hp' rfl (lvk_args (okc (okr ra0) okn)) rfl ra0 h
/-! MirrorRoots.words -/
def m121_0 (F : Nat) (v0 : Nat) (v1 : Int32) (hp : List mE) : Option (Int64 × List mE) :=
  (gfr 10 2 hp v0).bind fun x1 =>
  (rcv 1 hp x1).bind fun u3 =>
  (e16 F x1 v1 hp).bind fun q2 =>
  if mc1 .ne q2.1 = true then
    (gfr 10 2 q2.2 v0).bind fun x5 =>
    (gfr 1 3 q2.2 x5).bind fun x6 =>
    (rdI q2.2 x6 v1).bind fun x7 =>
    if mc2 .le x7 12 = true then
      (rcv 10 q2.2 v0).bind fun u10 =>
      (e128 F v0 q2.2).bind fun q9 =>
      if q9.1 < q9.2.length then
        (rcv 2 q9.2 q9.1).bind fun u13 =>
        (e29 F q9.1 v1 q9.2).bind fun q12 =>
        some (q12.1, q12.2)
      else none
    else
      some ((-1005), q2.2)
  else
    some ((-1001), q2.2)
theorem t121_0 {d n : Nat} (hd : 5 ≤ d) (F : Nat) : ∀ (v0 : Nat) (v1 : Int32) (lv : List (Nat × Value)) (hp : List mE) (v : Int64) (hp' : List mE), alk 0 lv = some (.ref v0) → alk 1 lv = some (.int v1) → lvk n lv → hp.length = n → v0 < n → m121_0 F v0 v1 hp = some (v, hp') → Ra d 121 0 lv [] hp (some (.long v)) hp' := by
  obtain ⟨d', rfl⟩ : ∃ d', d = d' + 1 := ⟨d - 1, by omega⟩
  intro v0 v1 lv hp v hp' l0 l1 ok hn r_v0 h
  unfold m121_0 at h
  refine Ra.of (fun c w r g => Rn.aload_n n121_0 l0 g) ?_
  obtain ⟨x1, hx1, h⟩ := Option.bind_eq_some_iff.mp h
  refine Ra.of (fun c w r g => Rn.gf n121_1 mo121 fl10_28 (gfr_v hx1).1 g) ?_
  have r_x1 : x1 < n := by rw [← hn]; exact (gfr_v hx1).2
  refine Ra.of (fun c w r g => Rn.iload_n n121_4 l1 g) ?_
  obtain ⟨u3, hu3, h⟩ := Option.bind_eq_some_iff.mp h
  obtain ⟨q2, hq2, h⟩ := Option.bind_eq_some_iff.mp h
  have gq2 := c16 (d := d') (by omega) F _ _ _ _ _ (by rw [hn]; exact r_x1) hq2
  refine Ra.of (fun c w r g => Rn.cv (As := [.int v1]) (rr := []) n121_5 mo121 mm10_130 (by decide) mq16 rfl rfl rfl rfl (by rw [mo16]; exact hu3) (Nat.le_of_ble_eq_true rfl) (by rw [hn]; exact (okc (okr r_x1) (okc rfl okn))) (by rw [hn]; exact okn) (by rw [hn]; exact ok) (by rw [ml16]; exact Nat.le_of_ble_eq_true rfl) gq2 g) ?_
  have hn := (Rn.len gq2).trans hn
  show Ra _ 121 8 lv [.int q2.1] q2.2 _ _
  by_cases hc4 : mc1 .ne q2.1 = true
  · rw [if_pos hc4] at h
    refine Ra.of (fun c w r g => Rn.c1t (t := 15) n121_8 (by decide) hc4 g) ?_
    refine Ra.of (fun c w r g => Rn.aload_n n121_15 l0 g) ?_
    obtain ⟨x5, hx5, h⟩ := Option.bind_eq_some_iff.mp h
    refine Ra.of (fun c w r g => Rn.gf n121_16 mo121 fl10_28 (gfr_v hx5).1 g) ?_
    have r_x5 : x5 < n := by rw [← hn]; exact (gfr_v hx5).2
    obtain ⟨x6, hx6, h⟩ := Option.bind_eq_some_iff.mp h
    refine Ra.of (fun c w r g => Rn.gf n121_19 mo121 fl10_131 (gfr_v hx6).1 g) ?_
    have r_x6 : x6 < n := by rw [← hn]; exact (gfr_v hx6).2
    refine Ra.of (fun c w r g => Rn.iload_n n121_22 l1 g) ?_
    obtain ⟨x7, hx7, h⟩ := Option.bind_eq_some_iff.mp h
    refine Ra.of (fun c w r g => Rn.iald n121_23 hx7 g) ?_
    refine Ra.of (fun c w r g => Rn.bp (v := 12) n121_24 (by decide) g) ?_
    by_cases hc8 : mc2 .le x7 12 = true
    · rw [if_pos hc8] at h
      refine Ra.of (fun c w r g => Rn.c2t (t := 33) n121_26 (by decide) hc8 g) ?_
      refine Ra.of (fun c w r g => Rn.aload_n n121_33 l0 g) ?_
      obtain ⟨u10, hu10, h⟩ := Option.bind_eq_some_iff.mp h
      obtain ⟨q9, hq9, h⟩ := Option.bind_eq_some_iff.mp h
      have gq9 := a128 (d := d') (by omega) F _ _ _ _ (by rw [hn]; exact r_v0) hq9
      refine Ra.call gq9 (fun c w c1 w1 r h1 g => Rn.cv (As := []) (rr := []) n121_34 mo121 mm10_173 (by decide) mq128 rfl rfl rfl rfl (by rw [mo128]; exact hu10) (Nat.le_of_ble_eq_true rfl) (by rw [hn]; exact (okc (okr r_v0) okn)) (by rw [hn]; exact okn) (by rw [hn]; exact ok) (by rw [ml128]; exact Nat.le_of_ble_eq_true rfl) h1 g) ?_ 
      have hle : n ≤ q9.2.length := by rw [← hn]; exact Ra.len gq9
      have r_v0 := Nat.lt_of_lt_of_le r_v0 hle
      have r_x1 := Nat.lt_of_lt_of_le r_x1 hle
      have r_x5 := Nat.lt_of_lt_of_le r_x5 hle
      have r_x6 := Nat.lt_of_lt_of_le r_x6 hle
      have ok := lvk_mono hle ok
      have hn : q9.2.length = q9.2.length := rfl
      show Ra _ 121 37 lv [.ref q9.1] q9.2 _ _
      by_cases hr_11 : q9.1 < q9.2.length
      · rw [if_pos hr_11] at h
        refine Ra.of (fun c w r g => Rn.iload_n n121_37 l1 g) ?_
        obtain ⟨u13, hu13, h⟩ := Option.bind_eq_some_iff.mp h
        obtain ⟨q12, hq12, h⟩ := Option.bind_eq_some_iff.mp h
        have gq12 := c29 (d := d') (by omega) F _ _ _ _ _ (by rw [hn]; exact hr_11) hq12
        refine Ra.of (fun c w r g => Rn.cv (As := [.int v1]) (rr := []) n121_38 mo121 mm10_177 (by decide) mq29 rfl rfl rfl rfl (by rw [mo29]; exact hu13) (Nat.le_of_ble_eq_true rfl) (by rw [hn]; exact (okc (okr hr_11) (okc rfl okn))) (by rw [hn]; exact okn) (by rw [hn]; exact ok) (by rw [ml29]; exact Nat.le_of_ble_eq_true rfl) gq12 g) ?_
        have hn := (Rn.len gq12).trans hn
        show Ra _ 121 41 lv [.long q12.1] q12.2 _ _
        have e1 := (Prod.mk.inj (Option.some.inj h)).1
        have e2 := (Prod.mk.inj (Option.some.inj h)).2
        subst e1
        subst e2
        exact Ra.ret (fun c w => Rn.lret n121_41 mr121)
      · rw [if_neg hr_11] at h; cases h
    · rw [if_neg hc8] at h
      refine Ra.of (fun c w r g => Rn.c2f (t := 33) n121_26 (by decide) hc8 g) ?_
      refine Ra.of (fun c w r g => Rn.ldc2 n121_29 mo121 cL10_171 g) ?_
      have e1 := (Prod.mk.inj (Option.some.inj h)).1
      have e2 := (Prod.mk.inj (Option.some.inj h)).2
      subst e1
      subst e2
      exact Ra.ret (fun c w => Rn.lret n121_32 mr121)
  · rw [if_neg hc4] at h
    refine Ra.of (fun c w r g => Rn.c1f (t := 15) n121_8 (by decide) hc4 g) ?_
    refine Ra.of (fun c w r g => Rn.ldc2 n121_11 mo121 cL10_149 g) ?_
    have e1 := (Prod.mk.inj (Option.some.inj h)).1
    have e2 := (Prod.mk.inj (Option.some.inj h)).2
    subst e1
    subst e2
    exact Ra.ret (fun c w => Rn.lret n121_14 mr121)
def e121 (F : Nat) (a0 : Nat) (a1 : Int32) (hp : List mE) : Option (Int64 × List mE) := m121_0 F a0 a1 hp
theorem a121 {d : Nat} (hd : 5 ≤ d) (F : Nat) (a0 : Nat) (a1 : Int32) (hp : List mE) (v : Int64) (hp' : List mE) (ra0 : a0 < hp.length) (h : e121 F a0 a1 hp = some (v, hp')) : Ra d 121 0 (lv_args 0 [.ref a0, .int a1]) [] hp (some (.long v)) hp' :=
  t121_0 (n := hp.length) hd F a0 a1 (lv_args 0 [.ref a0, .int a1]) hp v hp' rfl rfl (lvk_args (okc (okr ra0) (okc rfl okn))) rfl ra0 h
/-! MirrorRoots.growth -/
def m126_10 (F : Nat) (hp : List mE) : Option (Int32 × List mE) :=
  some ((-1002), hp)
theorem t126_10 {d n : Nat} (hd : 5 ≤ d) (F : Nat) : ∀ (lv : List (Nat × Value)) (hp : List mE) (v : Int32) (hp' : List mE), lvk n lv → hp.length = n → m126_10 F hp = some (v, hp') → Ra d 126 10 lv [] hp (some (.int v)) hp' := by
  obtain ⟨d', rfl⟩ : ∃ d', d = d' + 1 := ⟨d - 1, by omega⟩
  intro lv hp v hp' ok hn h
  unfold m126_10 at h
  refine Ra.of (fun c w r g => Rn.sp (v := (-1002)) n126_10 (by decide) g) ?_
  have e1 := (Prod.mk.inj (Option.some.inj h)).1
  have e2 := (Prod.mk.inj (Option.some.inj h)).2
  subst e1
  subst e2
  exact Ra.ret (fun c w => Rn.iret n126_13 mr126)
def m126_0 (F : Nat) (v0 : Nat) (v1 : Int32) (hp : List mE) : Option (Int32 × List mE) :=
  if mc1 .lt v1 = true then
    m126_10 F hp
  else
    if mc2 .le v1 20 = true then
      (rcv 10 hp v0).bind fun u4 =>
      (e128 F v0 hp).bind fun q3 =>
      if q3.1 < q3.2.length then
        (rcv 2 q3.2 q3.1).bind fun u7 =>
        (e23 F q3.1 v1 q3.2).bind fun q6 =>
        some (q6.1, q6.2)
      else none
    else
      m126_10 F hp
theorem t126_0 {d n : Nat} (hd : 5 ≤ d) (F : Nat) : ∀ (v0 : Nat) (v1 : Int32) (lv : List (Nat × Value)) (hp : List mE) (v : Int32) (hp' : List mE), alk 0 lv = some (.ref v0) → alk 1 lv = some (.int v1) → lvk n lv → hp.length = n → v0 < n → m126_0 F v0 v1 hp = some (v, hp') → Ra d 126 0 lv [] hp (some (.int v)) hp' := by
  obtain ⟨d', rfl⟩ : ∃ d', d = d' + 1 := ⟨d - 1, by omega⟩
  intro v0 v1 lv hp v hp' l0 l1 ok hn r_v0 h
  unfold m126_0 at h
  refine Ra.of (fun c w r g => Rn.iload_n n126_0 l1 g) ?_
  by_cases hc1 : mc1 .lt v1 = true
  · rw [if_pos hc1] at h
    refine Ra.of (fun c w r g => Rn.c1t (t := 10) n126_1 (by decide) hc1 g) ?_
    exact t126_10 hd F  lv _ _ _  ok hn   h
  · rw [if_neg hc1] at h
    refine Ra.of (fun c w r g => Rn.c1f (t := 10) n126_1 (by decide) hc1 g) ?_
    refine Ra.of (fun c w r g => Rn.iload_n n126_4 l1 g) ?_
    refine Ra.of (fun c w r g => Rn.bp (v := 20) n126_5 (by decide) g) ?_
    by_cases hc2 : mc2 .le v1 20 = true
    · rw [if_pos hc2] at h
      refine Ra.of (fun c w r g => Rn.c2t (t := 14) n126_7 (by decide) hc2 g) ?_
      refine Ra.of (fun c w r g => Rn.aload_n n126_14 l0 g) ?_
      obtain ⟨u4, hu4, h⟩ := Option.bind_eq_some_iff.mp h
      obtain ⟨q3, hq3, h⟩ := Option.bind_eq_some_iff.mp h
      have gq3 := a128 (d := d') (by omega) F _ _ _ _ (by rw [hn]; exact r_v0) hq3
      refine Ra.call gq3 (fun c w c1 w1 r h1 g => Rn.cv (As := []) (rr := []) n126_15 mo126 mm10_173 (by decide) mq128 rfl rfl rfl rfl (by rw [mo128]; exact hu4) (Nat.le_of_ble_eq_true rfl) (by rw [hn]; exact (okc (okr r_v0) okn)) (by rw [hn]; exact okn) (by rw [hn]; exact ok) (by rw [ml128]; exact Nat.le_of_ble_eq_true rfl) h1 g) ?_ 
      have hle : n ≤ q3.2.length := by rw [← hn]; exact Ra.len gq3
      have r_v0 := Nat.lt_of_lt_of_le r_v0 hle
      have ok := lvk_mono hle ok
      have hn : q3.2.length = q3.2.length := rfl
      show Ra _ 126 18 lv [.ref q3.1] q3.2 _ _
      by_cases hr_5 : q3.1 < q3.2.length
      · rw [if_pos hr_5] at h
        refine Ra.of (fun c w r g => Rn.iload_n n126_18 l1 g) ?_
        obtain ⟨u7, hu7, h⟩ := Option.bind_eq_some_iff.mp h
        obtain ⟨q6, hq6, h⟩ := Option.bind_eq_some_iff.mp h
        have gq6 := c23 (d := d') (by omega) F _ _ _ _ _ (by rw [hn]; exact hr_5) hq6
        refine Ra.of (fun c w r g => Rn.cv (As := [.int v1]) (rr := []) n126_19 mo126 mm10_200 (by decide) mq23 rfl rfl rfl rfl (by rw [mo23]; exact hu7) (Nat.le_of_ble_eq_true rfl) (by rw [hn]; exact (okc (okr hr_5) (okc rfl okn))) (by rw [hn]; exact okn) (by rw [hn]; exact ok) (by rw [ml23]; exact Nat.le_of_ble_eq_true rfl) gq6 g) ?_
        have hn := (Rn.len gq6).trans hn
        show Ra _ 126 22 lv [.int q6.1] q6.2 _ _
        have e1 := (Prod.mk.inj (Option.some.inj h)).1
        have e2 := (Prod.mk.inj (Option.some.inj h)).2
        subst e1
        subst e2
        exact Ra.ret (fun c w => Rn.iret n126_22 mr126)
      · rw [if_neg hr_5] at h; cases h
    · rw [if_neg hc2] at h
      refine Ra.of (fun c w r g => Rn.c2f (t := 14) n126_7 (by decide) hc2 g) ?_
      exact t126_10 hd F  lv _ _ _  ok hn   h
def e126 (F : Nat) (a0 : Nat) (a1 : Int32) (hp : List mE) : Option (Int32 × List mE) := m126_0 F a0 a1 hp
theorem a126 {d : Nat} (hd : 5 ≤ d) (F : Nat) (a0 : Nat) (a1 : Int32) (hp : List mE) (v : Int32) (hp' : List mE) (ra0 : a0 < hp.length) (h : e126 F a0 a1 hp = some (v, hp')) : Ra d 126 0 (lv_args 0 [.ref a0, .int a1]) [] hp (some (.int v)) hp' :=
  t126_0 (n := hp.length) hd F a0 a1 (lv_args 0 [.ref a0, .int a1]) hp v hp' rfl rfl (lvk_args (okc (okr ra0) (okc rfl okn))) rfl ra0 h
/-! MirrorRoots.whole -/
def m127_34 (F : Nat) (t0 : Int32) (hp : List mE) : Option (Int32 × List mE) :=
  some (t0, hp)
theorem t127_34 {d n : Nat} (hd : 5 ≤ d) (F : Nat) : ∀ (t0 : Int32) (lv : List (Nat × Value)) (hp : List mE) (v : Int32) (hp' : List mE), lvk n lv → hp.length = n → m127_34 F t0 hp = some (v, hp') → Ra d 127 34 lv [.int t0] hp (some (.int v)) hp' := by
  obtain ⟨d', rfl⟩ : ∃ d', d = d' + 1 := ⟨d - 1, by omega⟩
  intro t0 lv hp v hp' ok hn h
  unfold m127_34 at h
  have e1 := (Prod.mk.inj (Option.some.inj h)).1
  have e2 := (Prod.mk.inj (Option.some.inj h)).2
  subst e1
  subst e2
  exact Ra.ret (fun c w => Rn.iret n127_34 mr127)
def m127_9 (F : Nat) (hp : List mE) : Option (Int32 × List mE) :=
  some ((-1002), hp)
theorem t127_9 {d n : Nat} (hd : 5 ≤ d) (F : Nat) : ∀ (lv : List (Nat × Value)) (hp : List mE) (v : Int32) (hp' : List mE), lvk n lv → hp.length = n → m127_9 F hp = some (v, hp') → Ra d 127 9 lv [] hp (some (.int v)) hp' := by
  obtain ⟨d', rfl⟩ : ∃ d', d = d' + 1 := ⟨d - 1, by omega⟩
  intro lv hp v hp' ok hn h
  unfold m127_9 at h
  refine Ra.of (fun c w r g => Rn.sp (v := (-1002)) n127_9 (by decide) g) ?_
  have e1 := (Prod.mk.inj (Option.some.inj h)).1
  have e2 := (Prod.mk.inj (Option.some.inj h)).2
  subst e1
  subst e2
  exact Ra.ret (fun c w => Rn.iret n127_12 mr127)
def m127_0 (F : Nat) (v0 : Nat) (v1 : Int32) (hp : List mE) : Option (Int32 × List mE) :=
  if mc1 .lt v1 = true then
    m127_9 F hp
  else
    if mc2 .le v1 1 = true then
      if mc1 .ne v1 = true then
        (rcv 10 hp v0).bind fun u5 =>
        (e128 F v0 hp).bind fun q4 =>
        if q4.1 < q4.2.length then
          (rcv 2 q4.2 q4.1).bind fun u8 =>
          (e25 F q4.1 q4.2).bind fun q7 =>
          m127_34 F q7.1 q7.2
        else none
      else
        (rcv 10 hp v0).bind fun u10 =>
        (e128 F v0 hp).bind fun q9 =>
        if q9.1 < q9.2.length then
          (rcv 2 q9.2 q9.1).bind fun u13 =>
          (e24 F q9.1 q9.2).bind fun q12 =>
          m127_34 F q12.1 q12.2
        else none
    else
      m127_9 F hp
theorem t127_0 {d n : Nat} (hd : 5 ≤ d) (F : Nat) : ∀ (v0 : Nat) (v1 : Int32) (lv : List (Nat × Value)) (hp : List mE) (v : Int32) (hp' : List mE), alk 0 lv = some (.ref v0) → alk 1 lv = some (.int v1) → lvk n lv → hp.length = n → v0 < n → m127_0 F v0 v1 hp = some (v, hp') → Ra d 127 0 lv [] hp (some (.int v)) hp' := by
  obtain ⟨d', rfl⟩ : ∃ d', d = d' + 1 := ⟨d - 1, by omega⟩
  intro v0 v1 lv hp v hp' l0 l1 ok hn r_v0 h
  unfold m127_0 at h
  refine Ra.of (fun c w r g => Rn.iload_n n127_0 l1 g) ?_
  by_cases hc1 : mc1 .lt v1 = true
  · rw [if_pos hc1] at h
    refine Ra.of (fun c w r g => Rn.c1t (t := 9) n127_1 (by decide) hc1 g) ?_
    exact t127_9 hd F  lv _ _ _  ok hn   h
  · rw [if_neg hc1] at h
    refine Ra.of (fun c w r g => Rn.c1f (t := 9) n127_1 (by decide) hc1 g) ?_
    refine Ra.of (fun c w r g => Rn.iload_n n127_4 l1 g) ?_
    refine Ra.of (fun c w r g => Rn.ic (v := 1) n127_5 (by decide) g) ?_
    by_cases hc2 : mc2 .le v1 1 = true
    · rw [if_pos hc2] at h
      refine Ra.of (fun c w r g => Rn.c2t (t := 13) n127_6 (by decide) hc2 g) ?_
      refine Ra.of (fun c w r g => Rn.iload_n n127_13 l1 g) ?_
      by_cases hc3 : mc1 .ne v1 = true
      · rw [if_pos hc3] at h
        refine Ra.of (fun c w r g => Rn.c1t (t := 27) n127_14 (by decide) hc3 g) ?_
        refine Ra.of (fun c w r g => Rn.aload_n n127_27 l0 g) ?_
        obtain ⟨u5, hu5, h⟩ := Option.bind_eq_some_iff.mp h
        obtain ⟨q4, hq4, h⟩ := Option.bind_eq_some_iff.mp h
        have gq4 := a128 (d := d') (by omega) F _ _ _ _ (by rw [hn]; exact r_v0) hq4
        refine Ra.call gq4 (fun c w c1 w1 r h1 g => Rn.cv (As := []) (rr := []) n127_28 mo127 mm10_173 (by decide) mq128 rfl rfl rfl rfl (by rw [mo128]; exact hu5) (Nat.le_of_ble_eq_true rfl) (by rw [hn]; exact (okc (okr r_v0) okn)) (by rw [hn]; exact okn) (by rw [hn]; exact ok) (by rw [ml128]; exact Nat.le_of_ble_eq_true rfl) h1 g) ?_ 
        have hle : n ≤ q4.2.length := by rw [← hn]; exact Ra.len gq4
        have r_v0 := Nat.lt_of_lt_of_le r_v0 hle
        have ok := lvk_mono hle ok
        have hn : q4.2.length = q4.2.length := rfl
        show Ra _ 127 31 lv [.ref q4.1] q4.2 _ _
        by_cases hr_6 : q4.1 < q4.2.length
        · rw [if_pos hr_6] at h
          obtain ⟨u8, hu8, h⟩ := Option.bind_eq_some_iff.mp h
          obtain ⟨q7, hq7, h⟩ := Option.bind_eq_some_iff.mp h
          have gq7 := c25 (d := d') (by omega) F _ _ _ _ (by rw [hn]; exact hr_6) hq7
          refine Ra.of (fun c w r g => Rn.cv (As := []) (rr := []) n127_31 mo127 mm10_206 (by decide) mq25 rfl rfl rfl rfl (by rw [mo25]; exact hu8) (Nat.le_of_ble_eq_true rfl) (by rw [hn]; exact (okc (okr hr_6) okn)) (by rw [hn]; exact okn) (by rw [hn]; exact ok) (by rw [ml25]; exact Nat.le_of_ble_eq_true rfl) gq7 g) ?_
          have hn := (Rn.len gq7).trans hn
          show Ra _ 127 34 lv [.int q7.1] q7.2 _ _
          exact t127_34 hd F  _ lv _ _ _  ok hn   h
        · rw [if_neg hr_6] at h; cases h
      · rw [if_neg hc3] at h
        refine Ra.of (fun c w r g => Rn.c1f (t := 27) n127_14 (by decide) hc3 g) ?_
        refine Ra.of (fun c w r g => Rn.aload_n n127_17 l0 g) ?_
        obtain ⟨u10, hu10, h⟩ := Option.bind_eq_some_iff.mp h
        obtain ⟨q9, hq9, h⟩ := Option.bind_eq_some_iff.mp h
        have gq9 := a128 (d := d') (by omega) F _ _ _ _ (by rw [hn]; exact r_v0) hq9
        refine Ra.call gq9 (fun c w c1 w1 r h1 g => Rn.cv (As := []) (rr := []) n127_18 mo127 mm10_173 (by decide) mq128 rfl rfl rfl rfl (by rw [mo128]; exact hu10) (Nat.le_of_ble_eq_true rfl) (by rw [hn]; exact (okc (okr r_v0) okn)) (by rw [hn]; exact okn) (by rw [hn]; exact ok) (by rw [ml128]; exact Nat.le_of_ble_eq_true rfl) h1 g) ?_ 
        have hle : n ≤ q9.2.length := by rw [← hn]; exact Ra.len gq9
        have r_v0 := Nat.lt_of_lt_of_le r_v0 hle
        have ok := lvk_mono hle ok
        have hn : q9.2.length = q9.2.length := rfl
        show Ra _ 127 21 lv [.ref q9.1] q9.2 _ _
        by_cases hr_11 : q9.1 < q9.2.length
        · rw [if_pos hr_11] at h
          obtain ⟨u13, hu13, h⟩ := Option.bind_eq_some_iff.mp h
          obtain ⟨q12, hq12, h⟩ := Option.bind_eq_some_iff.mp h
          have gq12 := c24 (d := d') (by omega) F _ _ _ _ (by rw [hn]; exact hr_11) hq12
          refine Ra.of (fun c w r g => Rn.cv (As := []) (rr := []) n127_21 mo127 mm10_203 (by decide) mq24 rfl rfl rfl rfl (by rw [mo24]; exact hu13) (Nat.le_of_ble_eq_true rfl) (by rw [hn]; exact (okc (okr hr_11) okn)) (by rw [hn]; exact okn) (by rw [hn]; exact ok) (by rw [ml24]; exact Nat.le_of_ble_eq_true rfl) gq12 g) ?_
          have hn := (Rn.len gq12).trans hn
          show Ra _ 127 24 lv [.int q12.1] q12.2 _ _
          refine Ra.of (fun c w r g => Rn.goto (t := 34) n127_24 (by decide) g) ?_
          exact t127_34 hd F  _ lv _ _ _  ok hn   h
        · rw [if_neg hr_11] at h; cases h
    · rw [if_neg hc2] at h
      refine Ra.of (fun c w r g => Rn.c2f (t := 13) n127_6 (by decide) hc2 g) ?_
      exact t127_9 hd F  lv _ _ _  ok hn   h
def e127 (F : Nat) (a0 : Nat) (a1 : Int32) (hp : List mE) : Option (Int32 × List mE) := m127_0 F a0 a1 hp
theorem a127 {d : Nat} (hd : 5 ≤ d) (F : Nat) (a0 : Nat) (a1 : Int32) (hp : List mE) (v : Int32) (hp' : List mE) (ra0 : a0 < hp.length) (h : e127 F a0 a1 hp = some (v, hp')) : Ra d 127 0 (lv_args 0 [.ref a0, .int a1]) [] hp (some (.int v)) hp' :=
  t127_0 (n := hp.length) hd F a0 a1 (lv_args 0 [.ref a0, .int a1]) hp v hp' rfl rfl (lvk_args (okc (okr ra0) (okc rfl okn))) rfl ra0 h
/-! MirrorRoots.needIdeal -/
def m135_26 (F : Nat) (v0 : Nat) (hp : List mE) : Option (Nat × List mE) :=
  (gfr 10 10 hp v0).bind fun x1 =>
  some (x1, hp)
theorem t135_26 {d n : Nat} (hd : 3 ≤ d) (F : Nat) : ∀ (v0 : Nat) (lv : List (Nat × Value)) (hp : List mE) (v : Nat) (hp' : List mE), alk 0 lv = some (.ref v0) → lvk n lv → hp.length = n → v0 < n → m135_26 F v0 hp = some (v, hp') → Ra d 135 26 lv [] hp (some (.ref v)) hp' := by
  obtain ⟨d', rfl⟩ : ∃ d', d = d' + 1 := ⟨d - 1, by omega⟩
  intro v0 lv hp v hp' l0 ok hn r_v0 h
  unfold m135_26 at h
  refine Ra.of (fun c w r g => Rn.aload_n n135_26 l0 g) ?_
  obtain ⟨x1, hx1, h⟩ := Option.bind_eq_some_iff.mp h
  refine Ra.of (fun c w r g => Rn.gf n135_27 mo135 fl10_71 (gfr_v hx1).1 g) ?_
  have r_x1 : x1 < n := by rw [← hn]; exact (gfr_v hx1).2
  have e1 := (Prod.mk.inj (Option.some.inj h)).1
  have e2 := (Prod.mk.inj (Option.some.inj h)).2
  subst e1
  subst e2
  exact Ra.ret (fun c w => Rn.aret n135_30 mr135)
def m135_0 (F : Nat) (v0 : Nat) (hp : List mE) : Option (Nat × List mE) :=
  (gfq 10 10 hp v0).bind fun x1 =>
  if x1 = none then
    (nwO 0 hp).bind fun hp3 =>
    (gfr 10 0 hp3 v0).bind fun x5 =>
    (gfr 10 2 hp3 v0).bind fun x6 =>
    (e0 F hp.length x5 x6 hp3).bind fun q7 =>
    (pfv 10 10 q7.2 v0 (.ref hp.length)).bind fun hp8 =>
    m135_26 F v0 hp8
  else
    m135_26 F v0 hp
theorem t135_0 {d n : Nat} (hd : 3 ≤ d) (F : Nat) : ∀ (v0 : Nat) (lv : List (Nat × Value)) (hp : List mE) (v : Nat) (hp' : List mE), alk 0 lv = some (.ref v0) → lvk n lv → hp.length = n → v0 < n → m135_0 F v0 hp = some (v, hp') → Ra d 135 0 lv [] hp (some (.ref v)) hp' := by
  obtain ⟨d', rfl⟩ : ∃ d', d = d' + 1 := ⟨d - 1, by omega⟩
  intro v0 lv hp v hp' l0 ok hn r_v0 h
  unfold m135_0 at h
  refine Ra.of (fun c w r g => Rn.aload_n n135_0 l0 g) ?_
  obtain ⟨x1, hx1, h⟩ := Option.bind_eq_some_iff.mp h
  by_cases hq2 : x1 = none
  · rw [if_pos hq2] at h
    refine Ra.of (fun c w r g => Rn.gf n135_1 mo135 fl10_71 (gfq_n hq2 hx1) g) ?_
    refine Ra.of (fun c w r g => Rn.nnf (t := 26) n135_4 (by decide) g) ?_
    refine Ra.of (fun c w r g => Rn.aload_n n135_7 l0 g) ?_
    obtain ⟨hp3, hhp3, h⟩ := Option.bind_eq_some_iff.mp h
    refine Ra.nw n135_8 mo135 nl10_109 hhp3 (by rw [hn]; exact ok) (by rw [hn]; exact (okc (okr r_v0) okn)) ?_ 
    have rn4 : hp.length < hp3.length := by rw [nwO_len hhp3]; exact Nat.lt_succ_self _
    have hle : n ≤ hp3.length := by rw [nwO_len hhp3, hn]; exact Nat.le_succ _
    have r_v0 := Nat.lt_of_lt_of_le r_v0 hle
    have ok := lvk_mono hle ok
    have hn : hp3.length = hp3.length := rfl
    refine Ra.of (fun c w r g => Rn.p n135_11 rfl g) ?_
    refine Ra.of (fun c w r g => Rn.aload_n n135_12 l0 g) ?_
    obtain ⟨x5, hx5, h⟩ := Option.bind_eq_some_iff.mp h
    refine Ra.of (fun c w r g => Rn.gf n135_13 mo135 fl10_12 (gfr_v hx5).1 g) ?_
    have r_x5 : x5 < hp3.length := by rw [← hn]; exact (gfr_v hx5).2
    refine Ra.of (fun c w r g => Rn.aload_n n135_16 l0 g) ?_
    obtain ⟨x6, hx6, h⟩ := Option.bind_eq_some_iff.mp h
    refine Ra.of (fun c w r g => Rn.gf n135_17 mo135 fl10_28 (gfr_v hx6).1 g) ?_
    have r_x6 : x6 < hp3.length := by rw [← hn]; exact (gfr_v hx6).2
    obtain ⟨q7, hq7, h⟩ := Option.bind_eq_some_iff.mp h
    have gq7 := a0 (d := d') (by omega) F _ _ _ _ _ _ (by rw [hn]; exact rn4) (by rw [hn]; exact r_x5) (by rw [hn]; exact r_x6) hq7
    refine Ra.call gq7 (fun c w c1 w1 r h1 g => Rn.ci (As := [.ref x5, .ref x6]) (rr := [.ref hp.length, .ref v0]) n135_20 mo135 mm10_233 mq0 rfl rfl rfl rfl (Nat.le_of_ble_eq_true rfl) (by rw [hn]; exact (okc (okr rn4) (okc (okr r_x5) (okc (okr r_x6) okn)))) (by rw [hn]; exact (okc (okr rn4) (okc (okr r_v0) okn))) (by rw [hn]; exact ok) (by rw [ml0]; exact Nat.le_of_ble_eq_true rfl) h1 g) ?_ 
    have hle : hp3.length ≤ q7.2.length := by rw [← hn]; exact Ra.len gq7
    have rn4 := Nat.lt_of_lt_of_le rn4 hle
    have r_v0 := Nat.lt_of_lt_of_le r_v0 hle
    have r_x5 := Nat.lt_of_lt_of_le r_x5 hle
    have r_x6 := Nat.lt_of_lt_of_le r_x6 hle
    have ok := lvk_mono hle ok
    have hn : q7.2.length = q7.2.length := rfl
    show Ra _ 135 23 lv [.ref hp.length, .ref v0] q7.2 _ _
    obtain ⟨hp8, hhp8, h⟩ := Option.bind_eq_some_iff.mp h
    refine Ra.of (fun c w r g => Rn.pf n135_23 mo135 fl10_71 ft10_10 rfl ff10_10 (fun _ _ hh => by cases hh) hhp8 g) ?_
    have hn := (pfv_len hhp8).trans hn
    exact t135_26 hd F  _ lv _ _ _ l0 ok hn r_v0  h
  · rw [if_neg hq2] at h
    obtain ⟨bx1, hbx1⟩ := gfq_s hq2 hx1
    refine Ra.of (fun c w r g => Rn.gf n135_1 mo135 fl10_71 hbx1 g) ?_
    refine Ra.of (fun c w r g => Rn.nnt (t := 26) n135_4 (by decide) g) ?_
    exact t135_26 hd F  _ lv _ _ _ l0 ok hn r_v0  h
def e135 (F : Nat) (a0 : Nat) (hp : List mE) : Option (Nat × List mE) := m135_0 F a0 hp
theorem a135 {d : Nat} (hd : 3 ≤ d) (F : Nat) (a0 : Nat) (hp : List mE) (v : Nat) (hp' : List mE) (ra0 : a0 < hp.length) (h : e135 F a0 hp = some (v, hp')) : Ra d 135 0 (lv_args 0 [.ref a0]) [] hp (some (.ref v)) hp' :=
  t135_0 (n := hp.length) hd F a0 (lv_args 0 [.ref a0]) hp v hp' rfl (lvk_args (okc (okr ra0) okn)) rfl ra0 h
/-! MirrorRoots.p -/
def m132_22 (F : Nat) (hp : List mE) : Option (Int32 × List mE) :=
  some ((-1001), hp)
theorem t132_22 {d n : Nat} (hd : 19 ≤ d) (F : Nat) : ∀ (lv : List (Nat × Value)) (hp : List mE) (v : Int32) (hp' : List mE), lvk n lv → hp.length = n → m132_22 F hp = some (v, hp') → Ra d 132 22 lv [] hp (some (.int v)) hp' := by
  obtain ⟨d', rfl⟩ : ∃ d', d = d' + 1 := ⟨d - 1, by omega⟩
  intro lv hp v hp' ok hn h
  unfold m132_22 at h
  refine Ra.of (fun c w r g => Rn.sp (v := (-1001)) n132_22 (by decide) g) ?_
  have e1 := (Prod.mk.inj (Option.some.inj h)).1
  have e2 := (Prod.mk.inj (Option.some.inj h)).2
  subst e1
  subst e2
  exact Ra.ret (fun c w => Rn.iret n132_25 mr132)
def m132_0 (F : Nat) (v0 : Nat) (v1 : Int32) (v2 : Int32) (v3 : Int32) (hp : List mE) : Option (Int32 × List mE) :=
  (gfr 10 2 hp v0).bind fun x1 =>
  (rcv 1 hp x1).bind fun u3 =>
  (e16 F x1 v1 hp).bind fun q2 =>
  if mc1 .eq q2.1 = true then
    m132_22 F q2.2
  else
    (gfr 10 2 q2.2 v0).bind fun x5 =>
    (rcv 1 q2.2 x5).bind fun u7 =>
    (e16 F x5 v2 q2.2).bind fun q6 =>
    if mc1 .ne q6.1 = true then
      if mc1 .ge v3 = true then
        (gfr 10 2 q6.2 v0).bind fun x10 =>
        (gfr 1 3 q6.2 x10).bind fun x11 =>
        (rdI q6.2 x11 v2).bind fun x12 =>
        if mc2 .le x12 8 = true then
          (rcv 10 q6.2 v0).bind fun u15 =>
          (e135 F v0 q6.2).bind fun q14 =>
          if q14.1 < q14.2.length then
            (rcv 0 q14.2 q14.1).bind fun u18 =>
            (e5 F q14.1 v2 q14.2).bind fun q17 =>
            if q17.1 < q17.2.length then
              (rcv 0 q17.2 q17.1).bind fun u21 =>
              (e2 F q17.1 v1 v3 q17.2).bind fun q20 =>
              some (q20.1, q20.2)
            else none
          else none
        else
          some ((-1005), q6.2)
      else
        some ((-1002), q6.2)
    else
      m132_22 F q6.2
theorem t132_0 {d n : Nat} (hd : 19 ≤ d) (F : Nat) : ∀ (v0 : Nat) (v1 : Int32) (v2 : Int32) (v3 : Int32) (lv : List (Nat × Value)) (hp : List mE) (v : Int32) (hp' : List mE), alk 0 lv = some (.ref v0) → alk 1 lv = some (.int v1) → alk 2 lv = some (.int v2) → alk 3 lv = some (.int v3) → lvk n lv → hp.length = n → v0 < n → m132_0 F v0 v1 v2 v3 hp = some (v, hp') → Ra d 132 0 lv [] hp (some (.int v)) hp' := by
  obtain ⟨d', rfl⟩ : ∃ d', d = d' + 1 := ⟨d - 1, by omega⟩
  intro v0 v1 v2 v3 lv hp v hp' l0 l1 l2 l3 ok hn r_v0 h
  unfold m132_0 at h
  refine Ra.of (fun c w r g => Rn.aload_n n132_0 l0 g) ?_
  obtain ⟨x1, hx1, h⟩ := Option.bind_eq_some_iff.mp h
  refine Ra.of (fun c w r g => Rn.gf n132_1 mo132 fl10_28 (gfr_v hx1).1 g) ?_
  have r_x1 : x1 < n := by rw [← hn]; exact (gfr_v hx1).2
  refine Ra.of (fun c w r g => Rn.iload_n n132_4 l1 g) ?_
  obtain ⟨u3, hu3, h⟩ := Option.bind_eq_some_iff.mp h
  obtain ⟨q2, hq2, h⟩ := Option.bind_eq_some_iff.mp h
  have gq2 := c16 (d := d') (by omega) F _ _ _ _ _ (by rw [hn]; exact r_x1) hq2
  refine Ra.of (fun c w r g => Rn.cv (As := [.int v1]) (rr := []) n132_5 mo132 mm10_130 (by decide) mq16 rfl rfl rfl rfl (by rw [mo16]; exact hu3) (Nat.le_of_ble_eq_true rfl) (by rw [hn]; exact (okc (okr r_x1) (okc rfl okn))) (by rw [hn]; exact okn) (by rw [hn]; exact ok) (by rw [ml16]; exact Nat.le_of_ble_eq_true rfl) gq2 g) ?_
  have hn := (Rn.len gq2).trans hn
  show Ra _ 132 8 lv [.int q2.1] q2.2 _ _
  by_cases hc4 : mc1 .eq q2.1 = true
  · rw [if_pos hc4] at h
    refine Ra.of (fun c w r g => Rn.c1t (t := 22) n132_8 (by decide) hc4 g) ?_
    exact t132_22 hd F  lv _ _ _  ok hn   h
  · rw [if_neg hc4] at h
    refine Ra.of (fun c w r g => Rn.c1f (t := 22) n132_8 (by decide) hc4 g) ?_
    refine Ra.of (fun c w r g => Rn.aload_n n132_11 l0 g) ?_
    obtain ⟨x5, hx5, h⟩ := Option.bind_eq_some_iff.mp h
    refine Ra.of (fun c w r g => Rn.gf n132_12 mo132 fl10_28 (gfr_v hx5).1 g) ?_
    have r_x5 : x5 < n := by rw [← hn]; exact (gfr_v hx5).2
    refine Ra.of (fun c w r g => Rn.iload_n n132_15 l2 g) ?_
    obtain ⟨u7, hu7, h⟩ := Option.bind_eq_some_iff.mp h
    obtain ⟨q6, hq6, h⟩ := Option.bind_eq_some_iff.mp h
    have gq6 := c16 (d := d') (by omega) F _ _ _ _ _ (by rw [hn]; exact r_x5) hq6
    refine Ra.of (fun c w r g => Rn.cv (As := [.int v2]) (rr := []) n132_16 mo132 mm10_130 (by decide) mq16 rfl rfl rfl rfl (by rw [mo16]; exact hu7) (Nat.le_of_ble_eq_true rfl) (by rw [hn]; exact (okc (okr r_x5) (okc rfl okn))) (by rw [hn]; exact okn) (by rw [hn]; exact ok) (by rw [ml16]; exact Nat.le_of_ble_eq_true rfl) gq6 g) ?_
    have hn := (Rn.len gq6).trans hn
    show Ra _ 132 19 lv [.int q6.1] q6.2 _ _
    by_cases hc8 : mc1 .ne q6.1 = true
    · rw [if_pos hc8] at h
      refine Ra.of (fun c w r g => Rn.c1t (t := 26) n132_19 (by decide) hc8 g) ?_
      refine Ra.of (fun c w r g => Rn.iload_n n132_26 l3 g) ?_
      by_cases hc9 : mc1 .ge v3 = true
      · rw [if_pos hc9] at h
        refine Ra.of (fun c w r g => Rn.c1t (t := 34) n132_27 (by decide) hc9 g) ?_
        refine Ra.of (fun c w r g => Rn.aload_n n132_34 l0 g) ?_
        obtain ⟨x10, hx10, h⟩ := Option.bind_eq_some_iff.mp h
        refine Ra.of (fun c w r g => Rn.gf n132_35 mo132 fl10_28 (gfr_v hx10).1 g) ?_
        have r_x10 : x10 < n := by rw [← hn]; exact (gfr_v hx10).2
        obtain ⟨x11, hx11, h⟩ := Option.bind_eq_some_iff.mp h
        refine Ra.of (fun c w r g => Rn.gf n132_38 mo132 fl10_131 (gfr_v hx11).1 g) ?_
        have r_x11 : x11 < n := by rw [← hn]; exact (gfr_v hx11).2
        refine Ra.of (fun c w r g => Rn.iload_n n132_41 l2 g) ?_
        obtain ⟨x12, hx12, h⟩ := Option.bind_eq_some_iff.mp h
        refine Ra.of (fun c w r g => Rn.iald n132_42 hx12 g) ?_
        refine Ra.of (fun c w r g => Rn.bp (v := 8) n132_43 (by decide) g) ?_
        by_cases hc13 : mc2 .le x12 8 = true
        · rw [if_pos hc13] at h
          refine Ra.of (fun c w r g => Rn.c2t (t := 52) n132_45 (by decide) hc13 g) ?_
          refine Ra.of (fun c w r g => Rn.aload_n n132_52 l0 g) ?_
          obtain ⟨u15, hu15, h⟩ := Option.bind_eq_some_iff.mp h
          obtain ⟨q14, hq14, h⟩ := Option.bind_eq_some_iff.mp h
          have gq14 := a135 (d := d') (by omega) F _ _ _ _ (by rw [hn]; exact r_v0) hq14
          refine Ra.call gq14 (fun c w c1 w1 r h1 g => Rn.cv (As := []) (rr := []) n132_53 mo132 mm10_220 (by decide) mq135 rfl rfl rfl rfl (by rw [mo135]; exact hu15) (Nat.le_of_ble_eq_true rfl) (by rw [hn]; exact (okc (okr r_v0) okn)) (by rw [hn]; exact okn) (by rw [hn]; exact ok) (by rw [ml135]; exact Nat.le_of_ble_eq_true rfl) h1 g) ?_ 
          have hle : n ≤ q14.2.length := by rw [← hn]; exact Ra.len gq14
          have r_v0 := Nat.lt_of_lt_of_le r_v0 hle
          have r_x1 := Nat.lt_of_lt_of_le r_x1 hle
          have r_x10 := Nat.lt_of_lt_of_le r_x10 hle
          have r_x11 := Nat.lt_of_lt_of_le r_x11 hle
          have r_x5 := Nat.lt_of_lt_of_le r_x5 hle
          have ok := lvk_mono hle ok
          have hn : q14.2.length = q14.2.length := rfl
          show Ra _ 132 56 lv [.ref q14.1] q14.2 _ _
          by_cases hr_16 : q14.1 < q14.2.length
          · rw [if_pos hr_16] at h
            refine Ra.of (fun c w r g => Rn.iload_n n132_56 l2 g) ?_
            obtain ⟨u18, hu18, h⟩ := Option.bind_eq_some_iff.mp h
            obtain ⟨q17, hq17, h⟩ := Option.bind_eq_some_iff.mp h
            have gq17 := c5 (d := d') (by omega) F _ _ _ _ _ (by rw [hn]; exact hr_16) hq17
            refine Ra.of (fun c w r g => Rn.cv (As := [.int v2]) (rr := []) n132_57 mo132 mm10_224 (by decide) mq5 rfl rfl rfl rfl (by rw [mo5]; exact hu18) (Nat.le_of_ble_eq_true rfl) (by rw [hn]; exact (okc (okr hr_16) (okc rfl okn))) (by rw [hn]; exact okn) (by rw [hn]; exact ok) (by rw [ml5]; exact Nat.le_of_ble_eq_true rfl) gq17 g) ?_
            have hn := (Rn.len gq17).trans hn
            show Ra _ 132 60 lv [.ref q17.1] q17.2 _ _
            by_cases hr_19 : q17.1 < q17.2.length
            · rw [if_pos hr_19] at h
              have hr_19 := Nat.lt_of_lt_of_eq hr_19 hn
              refine Ra.of (fun c w r g => Rn.iload_n n132_60 l1 g) ?_
              refine Ra.of (fun c w r g => Rn.iload_n n132_61 l3 g) ?_
              obtain ⟨u21, hu21, h⟩ := Option.bind_eq_some_iff.mp h
              obtain ⟨q20, hq20, h⟩ := Option.bind_eq_some_iff.mp h
              have gq20 := c2 (d := d') (by omega) F _ _ _ _ _ _ (by rw [hn]; exact hr_19) hq20
              refine Ra.of (fun c w r g => Rn.cv (As := [.int v1, .int v3]) (rr := []) n132_62 mo132 mm10_228 (by decide) mq2 rfl rfl rfl rfl (by rw [mo2]; exact hu21) (Nat.le_of_ble_eq_true rfl) (by rw [hn]; exact (okc (okr hr_19) (okc rfl (okc rfl okn)))) (by rw [hn]; exact okn) (by rw [hn]; exact ok) (by rw [ml2]; exact Nat.le_of_ble_eq_true rfl) gq20 g) ?_
              have hn := (Rn.len gq20).trans hn
              show Ra _ 132 65 lv [.int q20.1] q20.2 _ _
              have e1 := (Prod.mk.inj (Option.some.inj h)).1
              have e2 := (Prod.mk.inj (Option.some.inj h)).2
              subst e1
              subst e2
              exact Ra.ret (fun c w => Rn.iret n132_65 mr132)
            · rw [if_neg hr_19] at h; cases h
          · rw [if_neg hr_16] at h; cases h
        · rw [if_neg hc13] at h
          refine Ra.of (fun c w r g => Rn.c2f (t := 52) n132_45 (by decide) hc13 g) ?_
          refine Ra.of (fun c w r g => Rn.sp (v := (-1005)) n132_48 (by decide) g) ?_
          have e1 := (Prod.mk.inj (Option.some.inj h)).1
          have e2 := (Prod.mk.inj (Option.some.inj h)).2
          subst e1
          subst e2
          exact Ra.ret (fun c w => Rn.iret n132_51 mr132)
      · rw [if_neg hc9] at h
        refine Ra.of (fun c w r g => Rn.c1f (t := 34) n132_27 (by decide) hc9 g) ?_
        refine Ra.of (fun c w r g => Rn.sp (v := (-1002)) n132_30 (by decide) g) ?_
        have e1 := (Prod.mk.inj (Option.some.inj h)).1
        have e2 := (Prod.mk.inj (Option.some.inj h)).2
        subst e1
        subst e2
        exact Ra.ret (fun c w => Rn.iret n132_33 mr132)
    · rw [if_neg hc8] at h
      refine Ra.of (fun c w r g => Rn.c1f (t := 26) n132_19 (by decide) hc8 g) ?_
      exact t132_22 hd F  lv _ _ _  ok hn   h
def e132 (F : Nat) (a0 : Nat) (a1 : Int32) (a2 : Int32) (a3 : Int32) (hp : List mE) : Option (Int32 × List mE) := m132_0 F a0 a1 a2 a3 hp
theorem a132 {d : Nat} (hd : 19 ≤ d) (F : Nat) (a0 : Nat) (a1 : Int32) (a2 : Int32) (a3 : Int32) (hp : List mE) (v : Int32) (hp' : List mE) (ra0 : a0 < hp.length) (h : e132 F a0 a1 a2 a3 hp = some (v, hp')) : Ra d 132 0 (lv_args 0 [.ref a0, .int a1, .int a2, .int a3]) [] hp (some (.int v)) hp' :=
  t132_0 (n := hp.length) hd F a0 a1 a2 a3 (lv_args 0 [.ref a0, .int a1, .int a2, .int a3]) hp v hp' rfl rfl rfl rfl (lvk_args (okc (okr ra0) (okc rfl (okc rfl (okc rfl okn))))) rfl ra0 h
/-! MirrorRoots.leans -/
def m133_74 (F : Nat) (hp : List mE) : Option (Int32 × List mE) :=
  some (0, hp)
theorem t133_74 {d n : Nat} (hd : 19 ≤ d) (F : Nat) : ∀ (lv : List (Nat × Value)) (hp : List mE) (v : Int32) (hp' : List mE), lvk n lv → hp.length = n → m133_74 F hp = some (v, hp') → Ra d 133 74 lv [] hp (some (.int v)) hp' := by
  obtain ⟨d', rfl⟩ : ∃ d', d = d' + 1 := ⟨d - 1, by omega⟩
  intro lv hp v hp' ok hn h
  unfold m133_74 at h
  refine Ra.of (fun c w r g => Rn.ic (v := 0) n133_74 (by decide) g) ?_
  have e1 := (Prod.mk.inj (Option.some.inj h)).1
  have e2 := (Prod.mk.inj (Option.some.inj h)).2
  subst e1
  subst e2
  exact Ra.ret (fun c w => Rn.iret n133_75 mr133)
def m133_22 (F : Nat) (hp : List mE) : Option (Int32 × List mE) :=
  some ((-1001), hp)
theorem t133_22 {d n : Nat} (hd : 19 ≤ d) (F : Nat) : ∀ (lv : List (Nat × Value)) (hp : List mE) (v : Int32) (hp' : List mE), lvk n lv → hp.length = n → m133_22 F hp = some (v, hp') → Ra d 133 22 lv [] hp (some (.int v)) hp' := by
  obtain ⟨d', rfl⟩ : ∃ d', d = d' + 1 := ⟨d - 1, by omega⟩
  intro lv hp v hp' ok hn h
  unfold m133_22 at h
  refine Ra.of (fun c w r g => Rn.sp (v := (-1001)) n133_22 (by decide) g) ?_
  have e1 := (Prod.mk.inj (Option.some.inj h)).1
  have e2 := (Prod.mk.inj (Option.some.inj h)).2
  subst e1
  subst e2
  exact Ra.ret (fun c w => Rn.iret n133_25 mr133)
def m133_0 (F : Nat) (v0 : Nat) (v1 : Int32) (v2 : Int32) (hp : List mE) : Option (Int32 × List mE) :=
  (gfr 10 2 hp v0).bind fun x1 =>
  (rcv 1 hp x1).bind fun u3 =>
  (e16 F x1 v1 hp).bind fun q2 =>
  if mc1 .eq q2.1 = true then
    m133_22 F q2.2
  else
    (gfr 10 2 q2.2 v0).bind fun x5 =>
    (rcv 1 q2.2 x5).bind fun u7 =>
    (e16 F x5 v2 q2.2).bind fun q6 =>
    if mc1 .ne q6.1 = true then
      (gfr 10 2 q6.2 v0).bind fun x9 =>
      (gfr 1 3 q6.2 x9).bind fun x10 =>
      (rdI q6.2 x10 v2).bind fun x11 =>
      if mc2 .le x11 8 = true then
        (gfr 10 2 q6.2 v0).bind fun x13 =>
        (gfr 1 3 q6.2 x13).bind fun x14 =>
        (rdI q6.2 x14 v2).bind fun x15 =>
        (gfr 10 2 q6.2 v0).bind fun x16 =>
        (gfr 1 3 q6.2 x16).bind fun x17 =>
        (rdI q6.2 x17 v1).bind fun x18 =>
        if mc1 .lt (x15 - x18) = true then
          m133_74 F q6.2
        else
          if mc1 .ne ((x15 - x18) - (x15 - x18) / 2 * 2) = true then
            (rcv 10 q6.2 v0).bind fun u22 =>
            (e135 F v0 q6.2).bind fun q21 =>
            if q21.1 < q21.2.length then
              (rcv 0 q21.2 q21.1).bind fun u25 =>
              (e5 F q21.1 v2 q21.2).bind fun q24 =>
              if q24.1 < q24.2.length then
                (rcv 0 q24.2 q24.1).bind fun u28 =>
                (e2 F q24.1 v1 (((x15 - x18) - 1) / 2) q24.2).bind fun q27 =>
                some (q27.1, q27.2)
              else none
            else none
          else
            m133_74 F q6.2
      else
        some ((-1005), q6.2)
    else
      m133_22 F q6.2
theorem t133_0 {d n : Nat} (hd : 19 ≤ d) (F : Nat) : ∀ (v0 : Nat) (v1 : Int32) (v2 : Int32) (lv : List (Nat × Value)) (hp : List mE) (v : Int32) (hp' : List mE), alk 0 lv = some (.ref v0) → alk 1 lv = some (.int v1) → alk 2 lv = some (.int v2) → lvk n lv → hp.length = n → v0 < n → m133_0 F v0 v1 v2 hp = some (v, hp') → Ra d 133 0 lv [] hp (some (.int v)) hp' := by
  obtain ⟨d', rfl⟩ : ∃ d', d = d' + 1 := ⟨d - 1, by omega⟩
  intro v0 v1 v2 lv hp v hp' l0 l1 l2 ok hn r_v0 h
  unfold m133_0 at h
  refine Ra.of (fun c w r g => Rn.aload_n n133_0 l0 g) ?_
  obtain ⟨x1, hx1, h⟩ := Option.bind_eq_some_iff.mp h
  refine Ra.of (fun c w r g => Rn.gf n133_1 mo133 fl10_28 (gfr_v hx1).1 g) ?_
  have r_x1 : x1 < n := by rw [← hn]; exact (gfr_v hx1).2
  refine Ra.of (fun c w r g => Rn.iload_n n133_4 l1 g) ?_
  obtain ⟨u3, hu3, h⟩ := Option.bind_eq_some_iff.mp h
  obtain ⟨q2, hq2, h⟩ := Option.bind_eq_some_iff.mp h
  have gq2 := c16 (d := d') (by omega) F _ _ _ _ _ (by rw [hn]; exact r_x1) hq2
  refine Ra.of (fun c w r g => Rn.cv (As := [.int v1]) (rr := []) n133_5 mo133 mm10_130 (by decide) mq16 rfl rfl rfl rfl (by rw [mo16]; exact hu3) (Nat.le_of_ble_eq_true rfl) (by rw [hn]; exact (okc (okr r_x1) (okc rfl okn))) (by rw [hn]; exact okn) (by rw [hn]; exact ok) (by rw [ml16]; exact Nat.le_of_ble_eq_true rfl) gq2 g) ?_
  have hn := (Rn.len gq2).trans hn
  show Ra _ 133 8 lv [.int q2.1] q2.2 _ _
  by_cases hc4 : mc1 .eq q2.1 = true
  · rw [if_pos hc4] at h
    refine Ra.of (fun c w r g => Rn.c1t (t := 22) n133_8 (by decide) hc4 g) ?_
    exact t133_22 hd F  lv _ _ _  ok hn   h
  · rw [if_neg hc4] at h
    refine Ra.of (fun c w r g => Rn.c1f (t := 22) n133_8 (by decide) hc4 g) ?_
    refine Ra.of (fun c w r g => Rn.aload_n n133_11 l0 g) ?_
    obtain ⟨x5, hx5, h⟩ := Option.bind_eq_some_iff.mp h
    refine Ra.of (fun c w r g => Rn.gf n133_12 mo133 fl10_28 (gfr_v hx5).1 g) ?_
    have r_x5 : x5 < n := by rw [← hn]; exact (gfr_v hx5).2
    refine Ra.of (fun c w r g => Rn.iload_n n133_15 l2 g) ?_
    obtain ⟨u7, hu7, h⟩ := Option.bind_eq_some_iff.mp h
    obtain ⟨q6, hq6, h⟩ := Option.bind_eq_some_iff.mp h
    have gq6 := c16 (d := d') (by omega) F _ _ _ _ _ (by rw [hn]; exact r_x5) hq6
    refine Ra.of (fun c w r g => Rn.cv (As := [.int v2]) (rr := []) n133_16 mo133 mm10_130 (by decide) mq16 rfl rfl rfl rfl (by rw [mo16]; exact hu7) (Nat.le_of_ble_eq_true rfl) (by rw [hn]; exact (okc (okr r_x5) (okc rfl okn))) (by rw [hn]; exact okn) (by rw [hn]; exact ok) (by rw [ml16]; exact Nat.le_of_ble_eq_true rfl) gq6 g) ?_
    have hn := (Rn.len gq6).trans hn
    show Ra _ 133 19 lv [.int q6.1] q6.2 _ _
    by_cases hc8 : mc1 .ne q6.1 = true
    · rw [if_pos hc8] at h
      refine Ra.of (fun c w r g => Rn.c1t (t := 26) n133_19 (by decide) hc8 g) ?_
      refine Ra.of (fun c w r g => Rn.aload_n n133_26 l0 g) ?_
      obtain ⟨x9, hx9, h⟩ := Option.bind_eq_some_iff.mp h
      refine Ra.of (fun c w r g => Rn.gf n133_27 mo133 fl10_28 (gfr_v hx9).1 g) ?_
      have r_x9 : x9 < n := by rw [← hn]; exact (gfr_v hx9).2
      obtain ⟨x10, hx10, h⟩ := Option.bind_eq_some_iff.mp h
      refine Ra.of (fun c w r g => Rn.gf n133_30 mo133 fl10_131 (gfr_v hx10).1 g) ?_
      have r_x10 : x10 < n := by rw [← hn]; exact (gfr_v hx10).2
      refine Ra.of (fun c w r g => Rn.iload_n n133_33 l2 g) ?_
      obtain ⟨x11, hx11, h⟩ := Option.bind_eq_some_iff.mp h
      refine Ra.of (fun c w r g => Rn.iald n133_34 hx11 g) ?_
      refine Ra.of (fun c w r g => Rn.bp (v := 8) n133_35 (by decide) g) ?_
      by_cases hc12 : mc2 .le x11 8 = true
      · rw [if_pos hc12] at h
        refine Ra.of (fun c w r g => Rn.c2t (t := 44) n133_37 (by decide) hc12 g) ?_
        refine Ra.of (fun c w r g => Rn.aload_n n133_44 l0 g) ?_
        obtain ⟨x13, hx13, h⟩ := Option.bind_eq_some_iff.mp h
        refine Ra.of (fun c w r g => Rn.gf n133_45 mo133 fl10_28 (gfr_v hx13).1 g) ?_
        have r_x13 : x13 < n := by rw [← hn]; exact (gfr_v hx13).2
        obtain ⟨x14, hx14, h⟩ := Option.bind_eq_some_iff.mp h
        refine Ra.of (fun c w r g => Rn.gf n133_48 mo133 fl10_131 (gfr_v hx14).1 g) ?_
        have r_x14 : x14 < n := by rw [← hn]; exact (gfr_v hx14).2
        refine Ra.of (fun c w r g => Rn.iload_n n133_51 l2 g) ?_
        obtain ⟨x15, hx15, h⟩ := Option.bind_eq_some_iff.mp h
        refine Ra.of (fun c w r g => Rn.iald n133_52 hx15 g) ?_
        refine Ra.of (fun c w r g => Rn.aload_n n133_53 l0 g) ?_
        obtain ⟨x16, hx16, h⟩ := Option.bind_eq_some_iff.mp h
        refine Ra.of (fun c w r g => Rn.gf n133_54 mo133 fl10_28 (gfr_v hx16).1 g) ?_
        have r_x16 : x16 < n := by rw [← hn]; exact (gfr_v hx16).2
        obtain ⟨x17, hx17, h⟩ := Option.bind_eq_some_iff.mp h
        refine Ra.of (fun c w r g => Rn.gf n133_57 mo133 fl10_131 (gfr_v hx17).1 g) ?_
        have r_x17 : x17 < n := by rw [← hn]; exact (gfr_v hx17).2
        refine Ra.of (fun c w r g => Rn.iload_n n133_60 l1 g) ?_
        obtain ⟨x18, hx18, h⟩ := Option.bind_eq_some_iff.mp h
        refine Ra.of (fun c w r g => Rn.iald n133_61 hx18 g) ?_
        refine Ra.of (fun c w r g => Rn.p n133_62 rfl g) ?_
        refine Ra.isn (m := n) n133_63 rfl ml133 (by decide) (fun lv l3 hk hok => ?_)
        have l0 := hk 0 _ (by decide) (Or.inl rfl) l0
        have l1 := hk 1 _ (by decide) (Or.inl rfl) l1
        have l2 := hk 2 _ (by decide) (Or.inl rfl) l2
        have ok := hok ok
        refine Ra.of (fun c w r g => Rn.iload_n n133_64 l3 g) ?_
        by_cases hc19 : mc1 .lt (x15 - x18) = true
        · rw [if_pos hc19] at h
          refine Ra.of (fun c w r g => Rn.c1t (t := 74) n133_65 (by decide) hc19 g) ?_
          exact t133_74 hd F  lv _ _ _  ok hn   h
        · rw [if_neg hc19] at h
          refine Ra.of (fun c w r g => Rn.c1f (t := 74) n133_65 (by decide) hc19 g) ?_
          refine Ra.of (fun c w r g => Rn.iload_n n133_68 l3 g) ?_
          refine Ra.of (fun c w r g => Rn.ic (v := 2) n133_69 (by decide) g) ?_
          refine Ra.of (fun c w r g => Rn.irm n133_70 (by decide) g) ?_
          by_cases hc20 : mc1 .ne ((x15 - x18) - (x15 - x18) / 2 * 2) = true
          · rw [if_pos hc20] at h
            refine Ra.of (fun c w r g => Rn.c1t (t := 76) n133_71 (by decide) hc20 g) ?_
            refine Ra.of (fun c w r g => Rn.aload_n n133_76 l0 g) ?_
            obtain ⟨u22, hu22, h⟩ := Option.bind_eq_some_iff.mp h
            obtain ⟨q21, hq21, h⟩ := Option.bind_eq_some_iff.mp h
            have gq21 := a135 (d := d') (by omega) F _ _ _ _ (by rw [hn]; exact r_v0) hq21
            refine Ra.call gq21 (fun c w c1 w1 r h1 g => Rn.cv (As := []) (rr := []) n133_77 mo133 mm10_220 (by decide) mq135 rfl rfl rfl rfl (by rw [mo135]; exact hu22) (Nat.le_of_ble_eq_true rfl) (by rw [hn]; exact (okc (okr r_v0) okn)) (by rw [hn]; exact okn) (by rw [hn]; exact ok) (by rw [ml135]; exact Nat.le_of_ble_eq_true rfl) h1 g) ?_ 
            have hle : n ≤ q21.2.length := by rw [← hn]; exact Ra.len gq21
            have r_v0 := Nat.lt_of_lt_of_le r_v0 hle
            have r_x1 := Nat.lt_of_lt_of_le r_x1 hle
            have r_x10 := Nat.lt_of_lt_of_le r_x10 hle
            have r_x13 := Nat.lt_of_lt_of_le r_x13 hle
            have r_x14 := Nat.lt_of_lt_of_le r_x14 hle
            have r_x16 := Nat.lt_of_lt_of_le r_x16 hle
            have r_x17 := Nat.lt_of_lt_of_le r_x17 hle
            have r_x5 := Nat.lt_of_lt_of_le r_x5 hle
            have r_x9 := Nat.lt_of_lt_of_le r_x9 hle
            have ok := lvk_mono hle ok
            have hn : q21.2.length = q21.2.length := rfl
            show Ra _ 133 80 lv [.ref q21.1] q21.2 _ _
            by_cases hr_23 : q21.1 < q21.2.length
            · rw [if_pos hr_23] at h
              refine Ra.of (fun c w r g => Rn.iload_n n133_80 l2 g) ?_
              obtain ⟨u25, hu25, h⟩ := Option.bind_eq_some_iff.mp h
              obtain ⟨q24, hq24, h⟩ := Option.bind_eq_some_iff.mp h
              have gq24 := c5 (d := d') (by omega) F _ _ _ _ _ (by rw [hn]; exact hr_23) hq24
              refine Ra.of (fun c w r g => Rn.cv (As := [.int v2]) (rr := []) n133_81 mo133 mm10_224 (by decide) mq5 rfl rfl rfl rfl (by rw [mo5]; exact hu25) (Nat.le_of_ble_eq_true rfl) (by rw [hn]; exact (okc (okr hr_23) (okc rfl okn))) (by rw [hn]; exact okn) (by rw [hn]; exact ok) (by rw [ml5]; exact Nat.le_of_ble_eq_true rfl) gq24 g) ?_
              have hn := (Rn.len gq24).trans hn
              show Ra _ 133 84 lv [.ref q24.1] q24.2 _ _
              by_cases hr_26 : q24.1 < q24.2.length
              · rw [if_pos hr_26] at h
                have hr_26 := Nat.lt_of_lt_of_eq hr_26 hn
                refine Ra.of (fun c w r g => Rn.iload_n n133_84 l1 g) ?_
                refine Ra.of (fun c w r g => Rn.iload_n n133_85 l3 g) ?_
                refine Ra.of (fun c w r g => Rn.ic (v := 1) n133_86 (by decide) g) ?_
                refine Ra.of (fun c w r g => Rn.p n133_87 rfl g) ?_
                refine Ra.of (fun c w r g => Rn.ic (v := 2) n133_88 (by decide) g) ?_
                refine Ra.of (fun c w r g => Rn.idv n133_89 (by decide) g) ?_
                obtain ⟨u28, hu28, h⟩ := Option.bind_eq_some_iff.mp h
                obtain ⟨q27, hq27, h⟩ := Option.bind_eq_some_iff.mp h
                have gq27 := c2 (d := d') (by omega) F _ _ _ _ _ _ (by rw [hn]; exact hr_26) hq27
                refine Ra.of (fun c w r g => Rn.cv (As := [.int v1, .int (((x15 - x18) - 1) / 2)]) (rr := []) n133_90 mo133 mm10_228 (by decide) mq2 rfl rfl rfl rfl (by rw [mo2]; exact hu28) (Nat.le_of_ble_eq_true rfl) (by rw [hn]; exact (okc (okr hr_26) (okc rfl (okc rfl okn)))) (by rw [hn]; exact okn) (by rw [hn]; exact ok) (by rw [ml2]; exact Nat.le_of_ble_eq_true rfl) gq27 g) ?_
                have hn := (Rn.len gq27).trans hn
                show Ra _ 133 93 lv [.int q27.1] q27.2 _ _
                have e1 := (Prod.mk.inj (Option.some.inj h)).1
                have e2 := (Prod.mk.inj (Option.some.inj h)).2
                subst e1
                subst e2
                exact Ra.ret (fun c w => Rn.iret n133_93 mr133)
              · rw [if_neg hr_26] at h; cases h
            · rw [if_neg hr_23] at h; cases h
          · rw [if_neg hc20] at h
            refine Ra.of (fun c w r g => Rn.c1f (t := 76) n133_71 (by decide) hc20 g) ?_
            exact t133_74 hd F  lv _ _ _  ok hn   h
      · rw [if_neg hc12] at h
        refine Ra.of (fun c w r g => Rn.c2f (t := 44) n133_37 (by decide) hc12 g) ?_
        refine Ra.of (fun c w r g => Rn.sp (v := (-1005)) n133_40 (by decide) g) ?_
        have e1 := (Prod.mk.inj (Option.some.inj h)).1
        have e2 := (Prod.mk.inj (Option.some.inj h)).2
        subst e1
        subst e2
        exact Ra.ret (fun c w => Rn.iret n133_43 mr133)
    · rw [if_neg hc8] at h
      refine Ra.of (fun c w r g => Rn.c1f (t := 26) n133_19 (by decide) hc8 g) ?_
      exact t133_22 hd F  lv _ _ _  ok hn   h
def e133 (F : Nat) (a0 : Nat) (a1 : Int32) (a2 : Int32) (hp : List mE) : Option (Int32 × List mE) := m133_0 F a0 a1 a2 hp
theorem a133 {d : Nat} (hd : 19 ≤ d) (F : Nat) (a0 : Nat) (a1 : Int32) (a2 : Int32) (hp : List mE) (v : Int32) (hp' : List mE) (ra0 : a0 < hp.length) (h : e133 F a0 a1 a2 hp = some (v, hp')) : Ra d 133 0 (lv_args 0 [.ref a0, .int a1, .int a2]) [] hp (some (.int v)) hp' :=
  t133_0 (n := hp.length) hd F a0 a1 a2 (lv_args 0 [.ref a0, .int a1, .int a2]) hp v hp' rfl rfl rfl (lvk_args (okc (okr ra0) (okc rfl (okc rfl okn)))) rfl ra0 h
/-! MirrorRoots.rough -/
def m134_0 (F : Nat) (v0 : Nat) (v1 : Int32) (hp : List mE) : Option (Int32 × List mE) :=
  (gfr 10 2 hp v0).bind fun x1 =>
  (rcv 1 hp x1).bind fun u3 =>
  (e16 F x1 v1 hp).bind fun q2 =>
  if mc1 .ne q2.1 = true then
    (gfr 10 2 q2.2 v0).bind fun x5 =>
    (gfr 1 3 q2.2 x5).bind fun x6 =>
    (rdI q2.2 x6 v1).bind fun x7 =>
    if mc2 .le x7 8 = true then
      (rcv 10 q2.2 v0).bind fun u10 =>
      (e135 F v0 q2.2).bind fun q9 =>
      if q9.1 < q9.2.length then
        (rcv 0 q9.2 q9.1).bind fun u13 =>
        (e5 F q9.1 v1 q9.2).bind fun q12 =>
        if q12.1 < q12.2.length then
          (rcv 0 q12.2 q12.1).bind fun u16 =>
          (e3 F q12.1 q12.2).bind fun q15 =>
          some (q15.1, q15.2)
        else none
      else none
    else
      some ((-1005), q2.2)
  else
    some ((-1001), q2.2)
theorem t134_0 {d n : Nat} (hd : 19 ≤ d) (F : Nat) : ∀ (v0 : Nat) (v1 : Int32) (lv : List (Nat × Value)) (hp : List mE) (v : Int32) (hp' : List mE), alk 0 lv = some (.ref v0) → alk 1 lv = some (.int v1) → lvk n lv → hp.length = n → v0 < n → m134_0 F v0 v1 hp = some (v, hp') → Ra d 134 0 lv [] hp (some (.int v)) hp' := by
  obtain ⟨d', rfl⟩ : ∃ d', d = d' + 1 := ⟨d - 1, by omega⟩
  intro v0 v1 lv hp v hp' l0 l1 ok hn r_v0 h
  unfold m134_0 at h
  refine Ra.of (fun c w r g => Rn.aload_n n134_0 l0 g) ?_
  obtain ⟨x1, hx1, h⟩ := Option.bind_eq_some_iff.mp h
  refine Ra.of (fun c w r g => Rn.gf n134_1 mo134 fl10_28 (gfr_v hx1).1 g) ?_
  have r_x1 : x1 < n := by rw [← hn]; exact (gfr_v hx1).2
  refine Ra.of (fun c w r g => Rn.iload_n n134_4 l1 g) ?_
  obtain ⟨u3, hu3, h⟩ := Option.bind_eq_some_iff.mp h
  obtain ⟨q2, hq2, h⟩ := Option.bind_eq_some_iff.mp h
  have gq2 := c16 (d := d') (by omega) F _ _ _ _ _ (by rw [hn]; exact r_x1) hq2
  refine Ra.of (fun c w r g => Rn.cv (As := [.int v1]) (rr := []) n134_5 mo134 mm10_130 (by decide) mq16 rfl rfl rfl rfl (by rw [mo16]; exact hu3) (Nat.le_of_ble_eq_true rfl) (by rw [hn]; exact (okc (okr r_x1) (okc rfl okn))) (by rw [hn]; exact okn) (by rw [hn]; exact ok) (by rw [ml16]; exact Nat.le_of_ble_eq_true rfl) gq2 g) ?_
  have hn := (Rn.len gq2).trans hn
  show Ra _ 134 8 lv [.int q2.1] q2.2 _ _
  by_cases hc4 : mc1 .ne q2.1 = true
  · rw [if_pos hc4] at h
    refine Ra.of (fun c w r g => Rn.c1t (t := 15) n134_8 (by decide) hc4 g) ?_
    refine Ra.of (fun c w r g => Rn.aload_n n134_15 l0 g) ?_
    obtain ⟨x5, hx5, h⟩ := Option.bind_eq_some_iff.mp h
    refine Ra.of (fun c w r g => Rn.gf n134_16 mo134 fl10_28 (gfr_v hx5).1 g) ?_
    have r_x5 : x5 < n := by rw [← hn]; exact (gfr_v hx5).2
    obtain ⟨x6, hx6, h⟩ := Option.bind_eq_some_iff.mp h
    refine Ra.of (fun c w r g => Rn.gf n134_19 mo134 fl10_131 (gfr_v hx6).1 g) ?_
    have r_x6 : x6 < n := by rw [← hn]; exact (gfr_v hx6).2
    refine Ra.of (fun c w r g => Rn.iload_n n134_22 l1 g) ?_
    obtain ⟨x7, hx7, h⟩ := Option.bind_eq_some_iff.mp h
    refine Ra.of (fun c w r g => Rn.iald n134_23 hx7 g) ?_
    refine Ra.of (fun c w r g => Rn.bp (v := 8) n134_24 (by decide) g) ?_
    by_cases hc8 : mc2 .le x7 8 = true
    · rw [if_pos hc8] at h
      refine Ra.of (fun c w r g => Rn.c2t (t := 33) n134_26 (by decide) hc8 g) ?_
      refine Ra.of (fun c w r g => Rn.aload_n n134_33 l0 g) ?_
      obtain ⟨u10, hu10, h⟩ := Option.bind_eq_some_iff.mp h
      obtain ⟨q9, hq9, h⟩ := Option.bind_eq_some_iff.mp h
      have gq9 := a135 (d := d') (by omega) F _ _ _ _ (by rw [hn]; exact r_v0) hq9
      refine Ra.call gq9 (fun c w c1 w1 r h1 g => Rn.cv (As := []) (rr := []) n134_34 mo134 mm10_220 (by decide) mq135 rfl rfl rfl rfl (by rw [mo135]; exact hu10) (Nat.le_of_ble_eq_true rfl) (by rw [hn]; exact (okc (okr r_v0) okn)) (by rw [hn]; exact okn) (by rw [hn]; exact ok) (by rw [ml135]; exact Nat.le_of_ble_eq_true rfl) h1 g) ?_ 
      have hle : n ≤ q9.2.length := by rw [← hn]; exact Ra.len gq9
      have r_v0 := Nat.lt_of_lt_of_le r_v0 hle
      have r_x1 := Nat.lt_of_lt_of_le r_x1 hle
      have r_x5 := Nat.lt_of_lt_of_le r_x5 hle
      have r_x6 := Nat.lt_of_lt_of_le r_x6 hle
      have ok := lvk_mono hle ok
      have hn : q9.2.length = q9.2.length := rfl
      show Ra _ 134 37 lv [.ref q9.1] q9.2 _ _
      by_cases hr_11 : q9.1 < q9.2.length
      · rw [if_pos hr_11] at h
        refine Ra.of (fun c w r g => Rn.iload_n n134_37 l1 g) ?_
        obtain ⟨u13, hu13, h⟩ := Option.bind_eq_some_iff.mp h
        obtain ⟨q12, hq12, h⟩ := Option.bind_eq_some_iff.mp h
        have gq12 := c5 (d := d') (by omega) F _ _ _ _ _ (by rw [hn]; exact hr_11) hq12
        refine Ra.of (fun c w r g => Rn.cv (As := [.int v1]) (rr := []) n134_38 mo134 mm10_224 (by decide) mq5 rfl rfl rfl rfl (by rw [mo5]; exact hu13) (Nat.le_of_ble_eq_true rfl) (by rw [hn]; exact (okc (okr hr_11) (okc rfl okn))) (by rw [hn]; exact okn) (by rw [hn]; exact ok) (by rw [ml5]; exact Nat.le_of_ble_eq_true rfl) gq12 g) ?_
        have hn := (Rn.len gq12).trans hn
        show Ra _ 134 41 lv [.ref q12.1] q12.2 _ _
        by_cases hr_14 : q12.1 < q12.2.length
        · rw [if_pos hr_14] at h
          have hr_14 := Nat.lt_of_lt_of_eq hr_14 hn
          obtain ⟨u16, hu16, h⟩ := Option.bind_eq_some_iff.mp h
          obtain ⟨q15, hq15, h⟩ := Option.bind_eq_some_iff.mp h
          have gq15 := c3 (d := d') (by omega) F _ _ _ _ (by rw [hn]; exact hr_14) hq15
          refine Ra.of (fun c w r g => Rn.cv (As := []) (rr := []) n134_41 mo134 mm10_230 (by decide) mq3 rfl rfl rfl rfl (by rw [mo3]; exact hu16) (Nat.le_of_ble_eq_true rfl) (by rw [hn]; exact (okc (okr hr_14) okn)) (by rw [hn]; exact okn) (by rw [hn]; exact ok) (by rw [ml3]; exact Nat.le_of_ble_eq_true rfl) gq15 g) ?_
          have hn := (Rn.len gq15).trans hn
          show Ra _ 134 44 lv [.int q15.1] q15.2 _ _
          have e1 := (Prod.mk.inj (Option.some.inj h)).1
          have e2 := (Prod.mk.inj (Option.some.inj h)).2
          subst e1
          subst e2
          exact Ra.ret (fun c w => Rn.iret n134_44 mr134)
        · rw [if_neg hr_14] at h; cases h
      · rw [if_neg hr_11] at h; cases h
    · rw [if_neg hc8] at h
      refine Ra.of (fun c w r g => Rn.c2f (t := 33) n134_26 (by decide) hc8 g) ?_
      refine Ra.of (fun c w r g => Rn.sp (v := (-1005)) n134_29 (by decide) g) ?_
      have e1 := (Prod.mk.inj (Option.some.inj h)).1
      have e2 := (Prod.mk.inj (Option.some.inj h)).2
      subst e1
      subst e2
      exact Ra.ret (fun c w => Rn.iret n134_32 mr134)
  · rw [if_neg hc4] at h
    refine Ra.of (fun c w r g => Rn.c1f (t := 15) n134_8 (by decide) hc4 g) ?_
    refine Ra.of (fun c w r g => Rn.sp (v := (-1001)) n134_11 (by decide) g) ?_
    have e1 := (Prod.mk.inj (Option.some.inj h)).1
    have e2 := (Prod.mk.inj (Option.some.inj h)).2
    subst e1
    subst e2
    exact Ra.ret (fun c w => Rn.iret n134_14 mr134)
def e134 (F : Nat) (a0 : Nat) (a1 : Int32) (hp : List mE) : Option (Int32 × List mE) := m134_0 F a0 a1 hp
theorem a134 {d : Nat} (hd : 19 ≤ d) (F : Nat) (a0 : Nat) (a1 : Int32) (hp : List mE) (v : Int32) (hp' : List mE) (ra0 : a0 < hp.length) (h : e134 F a0 a1 hp = some (v, hp')) : Ra d 134 0 (lv_args 0 [.ref a0, .int a1]) [] hp (some (.int v)) hp' :=
  t134_0 (n := hp.length) hd F a0 a1 (lv_args 0 [.ref a0, .int a1]) hp v hp' rfl rfl (lvk_args (okc (okr ra0) (okc rfl okn))) rfl ra0 h
/-! MirrorRootsModel.<init> -/
def m136_249 (F : Nat) : Nat → Nat → Int32 → List mE → Option (Unit × List mE)
  | 0, _, _, _ => none
  | f + 1, v0, v1, hp =>
    if mc2 .ge v1 25 = true then
      (gfr 11 3 hp v0).bind fun x2 =>
      (wrI hp x2 1 3).bind fun hp3 =>
      (gfr 11 3 hp3 v0).bind fun x4 =>
      (wrI hp3 x4 7 3).bind fun hp5 =>
      (rcv 11 hp5 v0).bind fun u7 =>
      (e138 F v0 3 hp5).bind fun q6 =>
      some ((), q6.2)
    else
      (gfr 11 3 hp v0).bind fun x8 =>
      (wrI hp x8 v1 2).bind fun hp9 =>
      m136_249 F f v0 (v1 + 1) hp9
theorem t136_249 {d n : Nat} (hd : 1 ≤ d) (F : Nat) : ∀ f : Nat, ∀ (v0 : Nat) (v1 : Int32) (lv : List (Nat × Value)) (hp : List mE) (v : Unit) (hp' : List mE), alk 0 lv = some (.ref v0) → alk 1 lv = some (.int v1) → lvk n lv → hp.length = n → v0 < n → m136_249 F f v0 v1 hp = some (v, hp') → Ra d 136 249 lv [] hp (none) hp' := by
  obtain ⟨d', rfl⟩ : ∃ d', d = d' + 1 := ⟨d - 1, by omega⟩
  intro f
  induction f with
  | zero => intro v0 v1 lv hp v hp' l0 l1 ok hn r_v0 h; cases h
  | succ f hr249 =>
    intro v0 v1 lv hp v hp' l0 l1 ok hn r_v0 h
    unfold m136_249 at h
    refine Ra.of (fun c w r g => Rn.iload_n n136_249 l1 g) ?_
    refine Ra.of (fun c w r g => Rn.bp (v := 25) n136_250 (by decide) g) ?_
    by_cases hc1 : mc2 .ge v1 25 = true
    · rw [if_pos hc1] at h
      refine Ra.of (fun c w r g => Rn.c2t (t := 268) n136_252 (by decide) hc1 g) ?_
      refine Ra.of (fun c w r g => Rn.aload_n n136_268 l0 g) ?_
      obtain ⟨x2, hx2, h⟩ := Option.bind_eq_some_iff.mp h
      refine Ra.of (fun c w r g => Rn.gf n136_269 mo136 fl11_20 (gfr_v hx2).1 g) ?_
      have r_x2 : x2 < n := by rw [← hn]; exact (gfr_v hx2).2
      refine Ra.of (fun c w r g => Rn.ic (v := 1) n136_272 (by decide) g) ?_
      refine Ra.of (fun c w r g => Rn.ic (v := 3) n136_273 (by decide) g) ?_
      obtain ⟨hp3, hhp3, h⟩ := Option.bind_eq_some_iff.mp h
      refine Ra.of (fun c w r g => Rn.iast n136_274 hhp3 g) ?_
      have hn := (wrI_st (st := []) hhp3).2.trans hn
      refine Ra.of (fun c w r g => Rn.aload_n n136_275 l0 g) ?_
      obtain ⟨x4, hx4, h⟩ := Option.bind_eq_some_iff.mp h
      refine Ra.of (fun c w r g => Rn.gf n136_276 mo136 fl11_20 (gfr_v hx4).1 g) ?_
      have r_x4 : x4 < n := by rw [← hn]; exact (gfr_v hx4).2
      refine Ra.of (fun c w r g => Rn.bp (v := 7) n136_279 (by decide) g) ?_
      refine Ra.of (fun c w r g => Rn.ic (v := 3) n136_281 (by decide) g) ?_
      obtain ⟨hp5, hhp5, h⟩ := Option.bind_eq_some_iff.mp h
      refine Ra.of (fun c w r g => Rn.iast n136_282 hhp5 g) ?_
      have hn := (wrI_st (st := []) hhp5).2.trans hn
      refine Ra.of (fun c w r g => Rn.aload_n n136_283 l0 g) ?_
      refine Ra.of (fun c w r g => Rn.ic (v := 3) n136_284 (by decide) g) ?_
      obtain ⟨u7, hu7, h⟩ := Option.bind_eq_some_iff.mp h
      obtain ⟨q6, hq6, h⟩ := Option.bind_eq_some_iff.mp h
      have gq6 := c138 (d := d') (by omega) F _ _ _ _ _ (by rw [hn]; exact r_v0) hq6
      refine Ra.of (fun c w r g => Rn.cv (As := [.int 3]) (rr := []) n136_285 mo136 mm11_104 (by decide) mq138 rfl rfl rfl rfl (by rw [mo138]; exact hu7) (Nat.le_of_ble_eq_true rfl) (by rw [hn]; exact (okc (okr r_v0) (okc rfl okn))) (by rw [hn]; exact okn) (by rw [hn]; exact ok) (by rw [ml138]; exact Nat.le_of_ble_eq_true rfl) gq6 g) ?_
      have hn := (Rn.len gq6).trans hn
      show Ra _ 136 288 lv [] q6.2 _ _
      have e1 := (Prod.mk.inj (Option.some.inj h)).1
      have e2 := (Prod.mk.inj (Option.some.inj h)).2
      subst e1
      subst e2
      exact Ra.ret (fun c w => Rn.vret n136_288 mr136)
    · rw [if_neg hc1] at h
      refine Ra.of (fun c w r g => Rn.c2f (t := 268) n136_252 (by decide) hc1 g) ?_
      refine Ra.of (fun c w r g => Rn.aload_n n136_255 l0 g) ?_
      obtain ⟨x8, hx8, h⟩ := Option.bind_eq_some_iff.mp h
      refine Ra.of (fun c w r g => Rn.gf n136_256 mo136 fl11_20 (gfr_v hx8).1 g) ?_
      have r_x8 : x8 < n := by rw [← hn]; exact (gfr_v hx8).2
      refine Ra.of (fun c w r g => Rn.iload_n n136_259 l1 g) ?_
      refine Ra.of (fun c w r g => Rn.ic (v := 2) n136_260 (by decide) g) ?_
      obtain ⟨hp9, hhp9, h⟩ := Option.bind_eq_some_iff.mp h
      refine Ra.of (fun c w r g => Rn.iast n136_261 hhp9 g) ?_
      have hn := (wrI_st (st := []) hhp9).2.trans hn
      refine Ra.ii (m := n) (u := 1) n136_262 ml136 (by decide) (by decide) l1 (fun lv l1 hk hok => ?_)
      have l0 := hk 0 _ (by decide) (Or.inl rfl) l0
      have ok := hok ok
      refine Ra.of (fun c w r g => Rn.goto (t := 249) n136_265 (by decide) g) ?_
      exact hr249 _ _ lv _ _ _ l0 l1 ok hn r_v0  h
def m136_0 (F : Nat) (v0 : Nat) (hp : List mE) : Option (Unit × List mE) :=
  (pfv 11 0 hp v0 (.int 3)).bind fun hp1 =>
  (nwI hp1 25).bind fun hp2 =>
  (pfv 11 1 hp2 v0 (.ref hp1.length)).bind fun hp4 =>
  (nwI hp4 25).bind fun hp5 =>
  (pfv 11 2 hp5 v0 (.ref hp4.length)).bind fun hp7 =>
  (nwI hp7 25).bind fun hp8 =>
  (pfv 11 3 hp8 v0 (.ref hp7.length)).bind fun hp10 =>
  (nwI hp10 120).bind fun hp11 =>
  (pfv 11 4 hp11 v0 (.ref hp10.length)).bind fun hp13 =>
  (pfv 11 6 hp13 v0 (.int ((-1)))).bind fun hp14 =>
  (nwZ hp14 25).bind fun hp15 =>
  (pfv 11 11 hp15 v0 (.ref hp14.length)).bind fun hp17 =>
  (nwJ hp17 25).bind fun hp18 =>
  (pfv 11 13 hp18 v0 (.ref hp17.length)).bind fun hp20 =>
  (nwI hp20 64).bind fun hp21 =>
  (pfv 11 14 hp21 v0 (.ref hp20.length)).bind fun hp23 =>
  (nwI hp23 40).bind fun hp24 =>
  (pfv 11 17 hp24 v0 (.ref hp23.length)).bind fun hp26 =>
  (nwI hp26 800).bind fun hp27 =>
  (pfv 11 18 hp27 v0 (.ref hp26.length)).bind fun hp29 =>
  (nwI hp29 20).bind fun hp30 =>
  (pfv 11 20 hp30 v0 (.ref hp29.length)).bind fun hp32 =>
  (nwJ hp32 50000).bind fun hp33 =>
  (pfv 11 21 hp33 v0 (.ref hp32.length)).bind fun hp35 =>
  (nwJ hp35 50000).bind fun hp36 =>
  (pfv 11 22 hp36 v0 (.ref hp35.length)).bind fun hp38 =>
  (nwJ hp38 2000).bind fun hp39 =>
  (pfv 11 23 hp39 v0 (.ref hp38.length)).bind fun hp41 =>
  (nwJ hp41 2000).bind fun hp42 =>
  (pfv 11 24 hp42 v0 (.ref hp41.length)).bind fun hp44 =>
  (nwJ hp44 5).bind fun hp45 =>
  (pfv 11 25 hp45 v0 (.ref hp44.length)).bind fun hp47 =>
  (nwI hp47 20).bind fun hp48 =>
  (pfv 11 26 hp48 v0 (.ref hp47.length)).bind fun hp50 =>
  (nwI hp50 301).bind fun hp51 =>
  (pfv 11 28 hp51 v0 (.ref hp50.length)).bind fun hp53 =>
  (nwI hp53 6020).bind fun hp54 =>
  (pfv 11 29 hp54 v0 (.ref hp53.length)).bind fun hp56 =>
  (pfv 11 30 hp56 v0 (.int ((-1)))).bind fun hp57 =>
  (nwJ hp57 6400).bind fun hp58 =>
  (pfv 11 32 hp58 v0 (.ref hp57.length)).bind fun hp60 =>
  (nwI hp60 256).bind fun hp61 =>
  (pfv 11 33 hp61 v0 (.ref hp60.length)).bind fun hp63 =>
  (nwI hp63 1280).bind fun hp64 =>
  (pfv 11 34 hp64 v0 (.ref hp63.length)).bind fun hp66 =>
  (nwZ hp66 1280).bind fun hp67 =>
  (pfv 11 35 hp67 v0 (.ref hp66.length)).bind fun hp69 =>
  (nwI hp69 2304).bind fun hp70 =>
  (pfv 11 36 hp70 v0 (.ref hp69.length)).bind fun hp72 =>
  (nwI hp72 2304).bind fun hp73 =>
  (pfv 11 37 hp73 v0 (.ref hp72.length)).bind fun hp75 =>
  (nwI hp75 9).bind fun hp76 =>
  (pfv 11 38 hp76 v0 (.ref hp75.length)).bind fun hp78 =>
  (nwI hp78 2304).bind fun hp79 =>
  (pfv 11 39 hp79 v0 (.ref hp78.length)).bind fun hp81 =>
  (nwI hp81 2304).bind fun hp82 =>
  (pfv 11 40 hp82 v0 (.ref hp81.length)).bind fun hp84 =>
  m136_249 F F v0 0 hp84
theorem t136_0 {d n : Nat} (hd : 1 ≤ d) (F : Nat) : ∀ (v0 : Nat) (lv : List (Nat × Value)) (hp : List mE) (v : Unit) (hp' : List mE), alk 0 lv = some (.ref v0) → lvk n lv → hp.length = n → v0 < n → m136_0 F v0 hp = some (v, hp') → Ra d 136 0 lv [] hp (none) hp' := by
  obtain ⟨d', rfl⟩ : ∃ d', d = d' + 1 := ⟨d - 1, by omega⟩
  intro v0 lv hp v hp' l0 ok hn r_v0 h
  unfold m136_0 at h
  refine Ra.of (fun c w r g => Rn.aload_n n136_0 l0 g) ?_
  refine Ra.of (fun c w r g => Rn.oi n136_1 mo136 mm11_1 (Nat.le_of_ble_eq_true rfl) rfl g) ?_
  refine Ra.of (fun c w r g => Rn.aload_n n136_4 l0 g) ?_
  refine Ra.of (fun c w r g => Rn.ic (v := 3) n136_5 (by decide) g) ?_
  obtain ⟨hp1, hhp1, h⟩ := Option.bind_eq_some_iff.mp h
  refine Ra.of (fun c w r g => Rn.pf n136_6 mo136 fl11_7 ft11_0 rfl ff11_0 (fun _ _ hh => by cases hh) hhp1 g) ?_
  have hn := (pfv_len hhp1).trans hn
  refine Ra.of (fun c w r g => Rn.aload_n n136_9 l0 g) ?_
  refine Ra.of (fun c w r g => Rn.bp (v := 25) n136_10 (by decide) g) ?_
  obtain ⟨hp2, hhp2, h⟩ := Option.bind_eq_some_iff.mp h
  refine Ra.nI n136_12 hhp2 (by rw [hn]; exact ok) (by rw [hn]; exact (okc (okr r_v0) okn)) ?_ 
  have rn3 : hp1.length < hp2.length := by rw [nwI_len hhp2]; exact Nat.lt_succ_self _
  have hle : n ≤ hp2.length := by rw [nwI_len hhp2, hn]; exact Nat.le_succ _
  have r_v0 := Nat.lt_of_lt_of_le r_v0 hle
  have ok := lvk_mono hle ok
  have hn : hp2.length = hp2.length := rfl
  obtain ⟨hp4, hhp4, h⟩ := Option.bind_eq_some_iff.mp h
  refine Ra.of (fun c w r g => Rn.pfF n136_14 mo136 fl11_13 ft11_1 rfl mi136 rfl hhp4 g) ?_
  have hn := (pfv_len hhp4).trans hn
  refine Ra.of (fun c w r g => Rn.aload_n n136_17 l0 g) ?_
  refine Ra.of (fun c w r g => Rn.bp (v := 25) n136_18 (by decide) g) ?_
  obtain ⟨hp5, hhp5, h⟩ := Option.bind_eq_some_iff.mp h
  refine Ra.nI n136_20 hhp5 (by rw [hn]; exact ok) (by rw [hn]; exact (okc (okr r_v0) okn)) ?_ 
  have rn6 : hp4.length < hp5.length := by rw [nwI_len hhp5]; exact Nat.lt_succ_self _
  have hle : hp2.length ≤ hp5.length := by rw [nwI_len hhp5, hn]; exact Nat.le_succ _
  have rn3 := Nat.lt_of_lt_of_le rn3 hle
  have r_v0 := Nat.lt_of_lt_of_le r_v0 hle
  have ok := lvk_mono hle ok
  have hn : hp5.length = hp5.length := rfl
  obtain ⟨hp7, hhp7, h⟩ := Option.bind_eq_some_iff.mp h
  refine Ra.of (fun c w r g => Rn.pfF n136_22 mo136 fl11_17 ft11_2 rfl mi136 rfl hhp7 g) ?_
  have hn := (pfv_len hhp7).trans hn
  refine Ra.of (fun c w r g => Rn.aload_n n136_25 l0 g) ?_
  refine Ra.of (fun c w r g => Rn.bp (v := 25) n136_26 (by decide) g) ?_
  obtain ⟨hp8, hhp8, h⟩ := Option.bind_eq_some_iff.mp h
  refine Ra.nI n136_28 hhp8 (by rw [hn]; exact ok) (by rw [hn]; exact (okc (okr r_v0) okn)) ?_ 
  have rn9 : hp7.length < hp8.length := by rw [nwI_len hhp8]; exact Nat.lt_succ_self _
  have hle : hp5.length ≤ hp8.length := by rw [nwI_len hhp8, hn]; exact Nat.le_succ _
  have rn3 := Nat.lt_of_lt_of_le rn3 hle
  have rn6 := Nat.lt_of_lt_of_le rn6 hle
  have r_v0 := Nat.lt_of_lt_of_le r_v0 hle
  have ok := lvk_mono hle ok
  have hn : hp8.length = hp8.length := rfl
  obtain ⟨hp10, hhp10, h⟩ := Option.bind_eq_some_iff.mp h
  refine Ra.of (fun c w r g => Rn.pfF n136_30 mo136 fl11_20 ft11_3 rfl mi136 rfl hhp10 g) ?_
  have hn := (pfv_len hhp10).trans hn
  refine Ra.of (fun c w r g => Rn.aload_n n136_33 l0 g) ?_
  refine Ra.of (fun c w r g => Rn.bp (v := 120) n136_34 (by decide) g) ?_
  obtain ⟨hp11, hhp11, h⟩ := Option.bind_eq_some_iff.mp h
  refine Ra.nI n136_36 hhp11 (by rw [hn]; exact ok) (by rw [hn]; exact (okc (okr r_v0) okn)) ?_ 
  have rn12 : hp10.length < hp11.length := by rw [nwI_len hhp11]; exact Nat.lt_succ_self _
  have hle : hp8.length ≤ hp11.length := by rw [nwI_len hhp11, hn]; exact Nat.le_succ _
  have rn3 := Nat.lt_of_lt_of_le rn3 hle
  have rn6 := Nat.lt_of_lt_of_le rn6 hle
  have rn9 := Nat.lt_of_lt_of_le rn9 hle
  have r_v0 := Nat.lt_of_lt_of_le r_v0 hle
  have ok := lvk_mono hle ok
  have hn : hp11.length = hp11.length := rfl
  obtain ⟨hp13, hhp13, h⟩ := Option.bind_eq_some_iff.mp h
  refine Ra.of (fun c w r g => Rn.pfF n136_38 mo136 fl11_23 ft11_4 rfl mi136 rfl hhp13 g) ?_
  have hn := (pfv_len hhp13).trans hn
  refine Ra.of (fun c w r g => Rn.aload_n n136_41 l0 g) ?_
  refine Ra.of (fun c w r g => Rn.ic (v := (-1)) n136_42 (by decide) g) ?_
  obtain ⟨hp14, hhp14, h⟩ := Option.bind_eq_some_iff.mp h
  refine Ra.of (fun c w r g => Rn.pf n136_43 mo136 fl11_26 ft11_6 rfl ff11_6 (fun _ _ hh => by cases hh) hhp14 g) ?_
  have hn := (pfv_len hhp14).trans hn
  refine Ra.of (fun c w r g => Rn.aload_n n136_46 l0 g) ?_
  refine Ra.of (fun c w r g => Rn.bp (v := 25) n136_47 (by decide) g) ?_
  obtain ⟨hp15, hhp15, h⟩ := Option.bind_eq_some_iff.mp h
  refine Ra.nZ n136_49 hhp15 (by rw [hn]; exact ok) (by rw [hn]; exact (okc (okr r_v0) okn)) ?_ 
  have rn16 : hp14.length < hp15.length := by rw [nwZ_len hhp15]; exact Nat.lt_succ_self _
  have hle : hp11.length ≤ hp15.length := by rw [nwZ_len hhp15, hn]; exact Nat.le_succ _
  have rn3 := Nat.lt_of_lt_of_le rn3 hle
  have rn12 := Nat.lt_of_lt_of_le rn12 hle
  have rn6 := Nat.lt_of_lt_of_le rn6 hle
  have rn9 := Nat.lt_of_lt_of_le rn9 hle
  have r_v0 := Nat.lt_of_lt_of_le r_v0 hle
  have ok := lvk_mono hle ok
  have hn : hp15.length = hp15.length := rfl
  obtain ⟨hp17, hhp17, h⟩ := Option.bind_eq_some_iff.mp h
  refine Ra.of (fun c w r g => Rn.pfF n136_51 mo136 fl11_29 ft11_11 rfl mi136 rfl hhp17 g) ?_
  have hn := (pfv_len hhp17).trans hn
  refine Ra.of (fun c w r g => Rn.aload_n n136_54 l0 g) ?_
  refine Ra.of (fun c w r g => Rn.bp (v := 25) n136_55 (by decide) g) ?_
  obtain ⟨hp18, hhp18, h⟩ := Option.bind_eq_some_iff.mp h
  refine Ra.nJ n136_57 hhp18 (by rw [hn]; exact ok) (by rw [hn]; exact (okc (okr r_v0) okn)) ?_ 
  have rn19 : hp17.length < hp18.length := by rw [nwJ_len hhp18]; exact Nat.lt_succ_self _
  have hle : hp15.length ≤ hp18.length := by rw [nwJ_len hhp18, hn]; exact Nat.le_succ _
  have rn3 := Nat.lt_of_lt_of_le rn3 hle
  have rn12 := Nat.lt_of_lt_of_le rn12 hle
  have rn16 := Nat.lt_of_lt_of_le rn16 hle
  have rn6 := Nat.lt_of_lt_of_le rn6 hle
  have rn9 := Nat.lt_of_lt_of_le rn9 hle
  have r_v0 := Nat.lt_of_lt_of_le r_v0 hle
  have ok := lvk_mono hle ok
  have hn : hp18.length = hp18.length := rfl
  obtain ⟨hp20, hhp20, h⟩ := Option.bind_eq_some_iff.mp h
  refine Ra.of (fun c w r g => Rn.pfF n136_59 mo136 fl11_33 ft11_13 rfl mi136 rfl hhp20 g) ?_
  have hn := (pfv_len hhp20).trans hn
  refine Ra.of (fun c w r g => Rn.aload_n n136_62 l0 g) ?_
  refine Ra.of (fun c w r g => Rn.bp (v := 64) n136_63 (by decide) g) ?_
  obtain ⟨hp21, hhp21, h⟩ := Option.bind_eq_some_iff.mp h
  refine Ra.nI n136_65 hhp21 (by rw [hn]; exact ok) (by rw [hn]; exact (okc (okr r_v0) okn)) ?_ 
  have rn22 : hp20.length < hp21.length := by rw [nwI_len hhp21]; exact Nat.lt_succ_self _
  have hle : hp18.length ≤ hp21.length := by rw [nwI_len hhp21, hn]; exact Nat.le_succ _
  have rn3 := Nat.lt_of_lt_of_le rn3 hle
  have rn12 := Nat.lt_of_lt_of_le rn12 hle
  have rn16 := Nat.lt_of_lt_of_le rn16 hle
  have rn19 := Nat.lt_of_lt_of_le rn19 hle
  have rn6 := Nat.lt_of_lt_of_le rn6 hle
  have rn9 := Nat.lt_of_lt_of_le rn9 hle
  have r_v0 := Nat.lt_of_lt_of_le r_v0 hle
  have ok := lvk_mono hle ok
  have hn : hp21.length = hp21.length := rfl
  obtain ⟨hp23, hhp23, h⟩ := Option.bind_eq_some_iff.mp h
  refine Ra.of (fun c w r g => Rn.pfF n136_67 mo136 fl11_37 ft11_14 rfl mi136 rfl hhp23 g) ?_
  have hn := (pfv_len hhp23).trans hn
  refine Ra.of (fun c w r g => Rn.aload_n n136_70 l0 g) ?_
  refine Ra.of (fun c w r g => Rn.bp (v := 40) n136_71 (by decide) g) ?_
  obtain ⟨hp24, hhp24, h⟩ := Option.bind_eq_some_iff.mp h
  refine Ra.nI n136_73 hhp24 (by rw [hn]; exact ok) (by rw [hn]; exact (okc (okr r_v0) okn)) ?_ 
  have rn25 : hp23.length < hp24.length := by rw [nwI_len hhp24]; exact Nat.lt_succ_self _
  have hle : hp21.length ≤ hp24.length := by rw [nwI_len hhp24, hn]; exact Nat.le_succ _
  have rn3 := Nat.lt_of_lt_of_le rn3 hle
  have rn12 := Nat.lt_of_lt_of_le rn12 hle
  have rn16 := Nat.lt_of_lt_of_le rn16 hle
  have rn19 := Nat.lt_of_lt_of_le rn19 hle
  have rn22 := Nat.lt_of_lt_of_le rn22 hle
  have rn6 := Nat.lt_of_lt_of_le rn6 hle
  have rn9 := Nat.lt_of_lt_of_le rn9 hle
  have r_v0 := Nat.lt_of_lt_of_le r_v0 hle
  have ok := lvk_mono hle ok
  have hn : hp24.length = hp24.length := rfl
  obtain ⟨hp26, hhp26, h⟩ := Option.bind_eq_some_iff.mp h
  refine Ra.of (fun c w r g => Rn.pfF n136_75 mo136 fl11_40 ft11_17 rfl mi136 rfl hhp26 g) ?_
  have hn := (pfv_len hhp26).trans hn
  refine Ra.of (fun c w r g => Rn.aload_n n136_78 l0 g) ?_
  refine Ra.of (fun c w r g => Rn.sp (v := 800) n136_79 (by decide) g) ?_
  obtain ⟨hp27, hhp27, h⟩ := Option.bind_eq_some_iff.mp h
  refine Ra.nI n136_82 hhp27 (by rw [hn]; exact ok) (by rw [hn]; exact (okc (okr r_v0) okn)) ?_ 
  have rn28 : hp26.length < hp27.length := by rw [nwI_len hhp27]; exact Nat.lt_succ_self _
  have hle : hp24.length ≤ hp27.length := by rw [nwI_len hhp27, hn]; exact Nat.le_succ _
  have rn3 := Nat.lt_of_lt_of_le rn3 hle
  have rn12 := Nat.lt_of_lt_of_le rn12 hle
  have rn16 := Nat.lt_of_lt_of_le rn16 hle
  have rn19 := Nat.lt_of_lt_of_le rn19 hle
  have rn22 := Nat.lt_of_lt_of_le rn22 hle
  have rn25 := Nat.lt_of_lt_of_le rn25 hle
  have rn6 := Nat.lt_of_lt_of_le rn6 hle
  have rn9 := Nat.lt_of_lt_of_le rn9 hle
  have r_v0 := Nat.lt_of_lt_of_le r_v0 hle
  have ok := lvk_mono hle ok
  have hn : hp27.length = hp27.length := rfl
  obtain ⟨hp29, hhp29, h⟩ := Option.bind_eq_some_iff.mp h
  refine Ra.of (fun c w r g => Rn.pfF n136_84 mo136 fl11_43 ft11_18 rfl mi136 rfl hhp29 g) ?_
  have hn := (pfv_len hhp29).trans hn
  refine Ra.of (fun c w r g => Rn.aload_n n136_87 l0 g) ?_
  refine Ra.of (fun c w r g => Rn.bp (v := 20) n136_88 (by decide) g) ?_
  obtain ⟨hp30, hhp30, h⟩ := Option.bind_eq_some_iff.mp h
  refine Ra.nI n136_90 hhp30 (by rw [hn]; exact ok) (by rw [hn]; exact (okc (okr r_v0) okn)) ?_ 
  have rn31 : hp29.length < hp30.length := by rw [nwI_len hhp30]; exact Nat.lt_succ_self _
  have hle : hp27.length ≤ hp30.length := by rw [nwI_len hhp30, hn]; exact Nat.le_succ _
  have rn3 := Nat.lt_of_lt_of_le rn3 hle
  have rn12 := Nat.lt_of_lt_of_le rn12 hle
  have rn16 := Nat.lt_of_lt_of_le rn16 hle
  have rn19 := Nat.lt_of_lt_of_le rn19 hle
  have rn22 := Nat.lt_of_lt_of_le rn22 hle
  have rn25 := Nat.lt_of_lt_of_le rn25 hle
  have rn28 := Nat.lt_of_lt_of_le rn28 hle
  have rn6 := Nat.lt_of_lt_of_le rn6 hle
  have rn9 := Nat.lt_of_lt_of_le rn9 hle
  have r_v0 := Nat.lt_of_lt_of_le r_v0 hle
  have ok := lvk_mono hle ok
  have hn : hp30.length = hp30.length := rfl
  obtain ⟨hp32, hhp32, h⟩ := Option.bind_eq_some_iff.mp h
  refine Ra.of (fun c w r g => Rn.pfF n136_92 mo136 fl11_46 ft11_20 rfl mi136 rfl hhp32 g) ?_
  have hn := (pfv_len hhp32).trans hn
  refine Ra.of (fun c w r g => Rn.aload_n n136_95 l0 g) ?_
  refine Ra.of (fun c w r g => Rn.ldc n136_96 mo136 ci11_49 g) ?_
  obtain ⟨hp33, hhp33, h⟩ := Option.bind_eq_some_iff.mp h
  refine Ra.nJ n136_98 hhp33 (by rw [hn]; exact ok) (by rw [hn]; exact (okc (okr r_v0) okn)) ?_ 
  have rn34 : hp32.length < hp33.length := by rw [nwJ_len hhp33]; exact Nat.lt_succ_self _
  have hle : hp30.length ≤ hp33.length := by rw [nwJ_len hhp33, hn]; exact Nat.le_succ _
  have rn3 := Nat.lt_of_lt_of_le rn3 hle
  have rn12 := Nat.lt_of_lt_of_le rn12 hle
  have rn16 := Nat.lt_of_lt_of_le rn16 hle
  have rn19 := Nat.lt_of_lt_of_le rn19 hle
  have rn22 := Nat.lt_of_lt_of_le rn22 hle
  have rn25 := Nat.lt_of_lt_of_le rn25 hle
  have rn28 := Nat.lt_of_lt_of_le rn28 hle
  have rn31 := Nat.lt_of_lt_of_le rn31 hle
  have rn6 := Nat.lt_of_lt_of_le rn6 hle
  have rn9 := Nat.lt_of_lt_of_le rn9 hle
  have r_v0 := Nat.lt_of_lt_of_le r_v0 hle
  have ok := lvk_mono hle ok
  have hn : hp33.length = hp33.length := rfl
  obtain ⟨hp35, hhp35, h⟩ := Option.bind_eq_some_iff.mp h
  refine Ra.of (fun c w r g => Rn.pfF n136_100 mo136 fl11_50 ft11_21 rfl mi136 rfl hhp35 g) ?_
  have hn := (pfv_len hhp35).trans hn
  refine Ra.of (fun c w r g => Rn.aload_n n136_103 l0 g) ?_
  refine Ra.of (fun c w r g => Rn.ldc n136_104 mo136 ci11_49 g) ?_
  obtain ⟨hp36, hhp36, h⟩ := Option.bind_eq_some_iff.mp h
  refine Ra.nJ n136_106 hhp36 (by rw [hn]; exact ok) (by rw [hn]; exact (okc (okr r_v0) okn)) ?_ 
  have rn37 : hp35.length < hp36.length := by rw [nwJ_len hhp36]; exact Nat.lt_succ_self _
  have hle : hp33.length ≤ hp36.length := by rw [nwJ_len hhp36, hn]; exact Nat.le_succ _
  have rn3 := Nat.lt_of_lt_of_le rn3 hle
  have rn12 := Nat.lt_of_lt_of_le rn12 hle
  have rn16 := Nat.lt_of_lt_of_le rn16 hle
  have rn19 := Nat.lt_of_lt_of_le rn19 hle
  have rn22 := Nat.lt_of_lt_of_le rn22 hle
  have rn25 := Nat.lt_of_lt_of_le rn25 hle
  have rn28 := Nat.lt_of_lt_of_le rn28 hle
  have rn31 := Nat.lt_of_lt_of_le rn31 hle
  have rn34 := Nat.lt_of_lt_of_le rn34 hle
  have rn6 := Nat.lt_of_lt_of_le rn6 hle
  have rn9 := Nat.lt_of_lt_of_le rn9 hle
  have r_v0 := Nat.lt_of_lt_of_le r_v0 hle
  have ok := lvk_mono hle ok
  have hn : hp36.length = hp36.length := rfl
  obtain ⟨hp38, hhp38, h⟩ := Option.bind_eq_some_iff.mp h
  refine Ra.of (fun c w r g => Rn.pfF n136_108 mo136 fl11_53 ft11_22 rfl mi136 rfl hhp38 g) ?_
  have hn := (pfv_len hhp38).trans hn
  refine Ra.of (fun c w r g => Rn.aload_n n136_111 l0 g) ?_
  refine Ra.of (fun c w r g => Rn.sp (v := 2000) n136_112 (by decide) g) ?_
  obtain ⟨hp39, hhp39, h⟩ := Option.bind_eq_some_iff.mp h
  refine Ra.nJ n136_115 hhp39 (by rw [hn]; exact ok) (by rw [hn]; exact (okc (okr r_v0) okn)) ?_ 
  have rn40 : hp38.length < hp39.length := by rw [nwJ_len hhp39]; exact Nat.lt_succ_self _
  have hle : hp36.length ≤ hp39.length := by rw [nwJ_len hhp39, hn]; exact Nat.le_succ _
  have rn3 := Nat.lt_of_lt_of_le rn3 hle
  have rn12 := Nat.lt_of_lt_of_le rn12 hle
  have rn16 := Nat.lt_of_lt_of_le rn16 hle
  have rn19 := Nat.lt_of_lt_of_le rn19 hle
  have rn22 := Nat.lt_of_lt_of_le rn22 hle
  have rn25 := Nat.lt_of_lt_of_le rn25 hle
  have rn28 := Nat.lt_of_lt_of_le rn28 hle
  have rn31 := Nat.lt_of_lt_of_le rn31 hle
  have rn34 := Nat.lt_of_lt_of_le rn34 hle
  have rn37 := Nat.lt_of_lt_of_le rn37 hle
  have rn6 := Nat.lt_of_lt_of_le rn6 hle
  have rn9 := Nat.lt_of_lt_of_le rn9 hle
  have r_v0 := Nat.lt_of_lt_of_le r_v0 hle
  have ok := lvk_mono hle ok
  have hn : hp39.length = hp39.length := rfl
  obtain ⟨hp41, hhp41, h⟩ := Option.bind_eq_some_iff.mp h
  refine Ra.of (fun c w r g => Rn.pfF n136_117 mo136 fl11_56 ft11_23 rfl mi136 rfl hhp41 g) ?_
  have hn := (pfv_len hhp41).trans hn
  refine Ra.of (fun c w r g => Rn.aload_n n136_120 l0 g) ?_
  refine Ra.of (fun c w r g => Rn.sp (v := 2000) n136_121 (by decide) g) ?_
  obtain ⟨hp42, hhp42, h⟩ := Option.bind_eq_some_iff.mp h
  refine Ra.nJ n136_124 hhp42 (by rw [hn]; exact ok) (by rw [hn]; exact (okc (okr r_v0) okn)) ?_ 
  have rn43 : hp41.length < hp42.length := by rw [nwJ_len hhp42]; exact Nat.lt_succ_self _
  have hle : hp39.length ≤ hp42.length := by rw [nwJ_len hhp42, hn]; exact Nat.le_succ _
  have rn3 := Nat.lt_of_lt_of_le rn3 hle
  have rn12 := Nat.lt_of_lt_of_le rn12 hle
  have rn16 := Nat.lt_of_lt_of_le rn16 hle
  have rn19 := Nat.lt_of_lt_of_le rn19 hle
  have rn22 := Nat.lt_of_lt_of_le rn22 hle
  have rn25 := Nat.lt_of_lt_of_le rn25 hle
  have rn28 := Nat.lt_of_lt_of_le rn28 hle
  have rn31 := Nat.lt_of_lt_of_le rn31 hle
  have rn34 := Nat.lt_of_lt_of_le rn34 hle
  have rn37 := Nat.lt_of_lt_of_le rn37 hle
  have rn40 := Nat.lt_of_lt_of_le rn40 hle
  have rn6 := Nat.lt_of_lt_of_le rn6 hle
  have rn9 := Nat.lt_of_lt_of_le rn9 hle
  have r_v0 := Nat.lt_of_lt_of_le r_v0 hle
  have ok := lvk_mono hle ok
  have hn : hp42.length = hp42.length := rfl
  obtain ⟨hp44, hhp44, h⟩ := Option.bind_eq_some_iff.mp h
  refine Ra.of (fun c w r g => Rn.pfF n136_126 mo136 fl11_59 ft11_24 rfl mi136 rfl hhp44 g) ?_
  have hn := (pfv_len hhp44).trans hn
  refine Ra.of (fun c w r g => Rn.aload_n n136_129 l0 g) ?_
  refine Ra.of (fun c w r g => Rn.ic (v := 5) n136_130 (by decide) g) ?_
  obtain ⟨hp45, hhp45, h⟩ := Option.bind_eq_some_iff.mp h
  refine Ra.nJ n136_131 hhp45 (by rw [hn]; exact ok) (by rw [hn]; exact (okc (okr r_v0) okn)) ?_ 
  have rn46 : hp44.length < hp45.length := by rw [nwJ_len hhp45]; exact Nat.lt_succ_self _
  have hle : hp42.length ≤ hp45.length := by rw [nwJ_len hhp45, hn]; exact Nat.le_succ _
  have rn3 := Nat.lt_of_lt_of_le rn3 hle
  have rn12 := Nat.lt_of_lt_of_le rn12 hle
  have rn16 := Nat.lt_of_lt_of_le rn16 hle
  have rn19 := Nat.lt_of_lt_of_le rn19 hle
  have rn22 := Nat.lt_of_lt_of_le rn22 hle
  have rn25 := Nat.lt_of_lt_of_le rn25 hle
  have rn28 := Nat.lt_of_lt_of_le rn28 hle
  have rn31 := Nat.lt_of_lt_of_le rn31 hle
  have rn34 := Nat.lt_of_lt_of_le rn34 hle
  have rn37 := Nat.lt_of_lt_of_le rn37 hle
  have rn40 := Nat.lt_of_lt_of_le rn40 hle
  have rn6 := Nat.lt_of_lt_of_le rn6 hle
  have rn43 := Nat.lt_of_lt_of_le rn43 hle
  have rn9 := Nat.lt_of_lt_of_le rn9 hle
  have r_v0 := Nat.lt_of_lt_of_le r_v0 hle
  have ok := lvk_mono hle ok
  have hn : hp45.length = hp45.length := rfl
  obtain ⟨hp47, hhp47, h⟩ := Option.bind_eq_some_iff.mp h
  refine Ra.of (fun c w r g => Rn.pfF n136_133 mo136 fl11_62 ft11_25 rfl mi136 rfl hhp47 g) ?_
  have hn := (pfv_len hhp47).trans hn
  refine Ra.of (fun c w r g => Rn.aload_n n136_136 l0 g) ?_
  refine Ra.of (fun c w r g => Rn.bp (v := 20) n136_137 (by decide) g) ?_
  obtain ⟨hp48, hhp48, h⟩ := Option.bind_eq_some_iff.mp h
  refine Ra.nI n136_139 hhp48 (by rw [hn]; exact ok) (by rw [hn]; exact (okc (okr r_v0) okn)) ?_ 
  have rn49 : hp47.length < hp48.length := by rw [nwI_len hhp48]; exact Nat.lt_succ_self _
  have hle : hp45.length ≤ hp48.length := by rw [nwI_len hhp48, hn]; exact Nat.le_succ _
  have rn3 := Nat.lt_of_lt_of_le rn3 hle
  have rn12 := Nat.lt_of_lt_of_le rn12 hle
  have rn16 := Nat.lt_of_lt_of_le rn16 hle
  have rn19 := Nat.lt_of_lt_of_le rn19 hle
  have rn22 := Nat.lt_of_lt_of_le rn22 hle
  have rn25 := Nat.lt_of_lt_of_le rn25 hle
  have rn28 := Nat.lt_of_lt_of_le rn28 hle
  have rn31 := Nat.lt_of_lt_of_le rn31 hle
  have rn34 := Nat.lt_of_lt_of_le rn34 hle
  have rn37 := Nat.lt_of_lt_of_le rn37 hle
  have rn40 := Nat.lt_of_lt_of_le rn40 hle
  have rn6 := Nat.lt_of_lt_of_le rn6 hle
  have rn43 := Nat.lt_of_lt_of_le rn43 hle
  have rn46 := Nat.lt_of_lt_of_le rn46 hle
  have rn9 := Nat.lt_of_lt_of_le rn9 hle
  have r_v0 := Nat.lt_of_lt_of_le r_v0 hle
  have ok := lvk_mono hle ok
  have hn : hp48.length = hp48.length := rfl
  obtain ⟨hp50, hhp50, h⟩ := Option.bind_eq_some_iff.mp h
  refine Ra.of (fun c w r g => Rn.pfF n136_141 mo136 fl11_65 ft11_26 rfl mi136 rfl hhp50 g) ?_
  have hn := (pfv_len hhp50).trans hn
  refine Ra.of (fun c w r g => Rn.aload_n n136_144 l0 g) ?_
  refine Ra.of (fun c w r g => Rn.sp (v := 301) n136_145 (by decide) g) ?_
  obtain ⟨hp51, hhp51, h⟩ := Option.bind_eq_some_iff.mp h
  refine Ra.nI n136_148 hhp51 (by rw [hn]; exact ok) (by rw [hn]; exact (okc (okr r_v0) okn)) ?_ 
  have rn52 : hp50.length < hp51.length := by rw [nwI_len hhp51]; exact Nat.lt_succ_self _
  have hle : hp48.length ≤ hp51.length := by rw [nwI_len hhp51, hn]; exact Nat.le_succ _
  have rn3 := Nat.lt_of_lt_of_le rn3 hle
  have rn12 := Nat.lt_of_lt_of_le rn12 hle
  have rn16 := Nat.lt_of_lt_of_le rn16 hle
  have rn19 := Nat.lt_of_lt_of_le rn19 hle
  have rn22 := Nat.lt_of_lt_of_le rn22 hle
  have rn25 := Nat.lt_of_lt_of_le rn25 hle
  have rn28 := Nat.lt_of_lt_of_le rn28 hle
  have rn31 := Nat.lt_of_lt_of_le rn31 hle
  have rn34 := Nat.lt_of_lt_of_le rn34 hle
  have rn37 := Nat.lt_of_lt_of_le rn37 hle
  have rn40 := Nat.lt_of_lt_of_le rn40 hle
  have rn6 := Nat.lt_of_lt_of_le rn6 hle
  have rn43 := Nat.lt_of_lt_of_le rn43 hle
  have rn46 := Nat.lt_of_lt_of_le rn46 hle
  have rn49 := Nat.lt_of_lt_of_le rn49 hle
  have rn9 := Nat.lt_of_lt_of_le rn9 hle
  have r_v0 := Nat.lt_of_lt_of_le r_v0 hle
  have ok := lvk_mono hle ok
  have hn : hp51.length = hp51.length := rfl
  obtain ⟨hp53, hhp53, h⟩ := Option.bind_eq_some_iff.mp h
  refine Ra.of (fun c w r g => Rn.pfF n136_150 mo136 fl11_68 ft11_28 rfl mi136 rfl hhp53 g) ?_
  have hn := (pfv_len hhp53).trans hn
  refine Ra.of (fun c w r g => Rn.aload_n n136_153 l0 g) ?_
  refine Ra.of (fun c w r g => Rn.sp (v := 6020) n136_154 (by decide) g) ?_
  obtain ⟨hp54, hhp54, h⟩ := Option.bind_eq_some_iff.mp h
  refine Ra.nI n136_157 hhp54 (by rw [hn]; exact ok) (by rw [hn]; exact (okc (okr r_v0) okn)) ?_ 
  have rn55 : hp53.length < hp54.length := by rw [nwI_len hhp54]; exact Nat.lt_succ_self _
  have hle : hp51.length ≤ hp54.length := by rw [nwI_len hhp54, hn]; exact Nat.le_succ _
  have rn3 := Nat.lt_of_lt_of_le rn3 hle
  have rn12 := Nat.lt_of_lt_of_le rn12 hle
  have rn16 := Nat.lt_of_lt_of_le rn16 hle
  have rn19 := Nat.lt_of_lt_of_le rn19 hle
  have rn22 := Nat.lt_of_lt_of_le rn22 hle
  have rn25 := Nat.lt_of_lt_of_le rn25 hle
  have rn28 := Nat.lt_of_lt_of_le rn28 hle
  have rn31 := Nat.lt_of_lt_of_le rn31 hle
  have rn34 := Nat.lt_of_lt_of_le rn34 hle
  have rn37 := Nat.lt_of_lt_of_le rn37 hle
  have rn40 := Nat.lt_of_lt_of_le rn40 hle
  have rn6 := Nat.lt_of_lt_of_le rn6 hle
  have rn43 := Nat.lt_of_lt_of_le rn43 hle
  have rn46 := Nat.lt_of_lt_of_le rn46 hle
  have rn49 := Nat.lt_of_lt_of_le rn49 hle
  have rn52 := Nat.lt_of_lt_of_le rn52 hle
  have rn9 := Nat.lt_of_lt_of_le rn9 hle
  have r_v0 := Nat.lt_of_lt_of_le r_v0 hle
  have ok := lvk_mono hle ok
  have hn : hp54.length = hp54.length := rfl
  obtain ⟨hp56, hhp56, h⟩ := Option.bind_eq_some_iff.mp h
  refine Ra.of (fun c w r g => Rn.pfF n136_159 mo136 fl11_71 ft11_29 rfl mi136 rfl hhp56 g) ?_
  have hn := (pfv_len hhp56).trans hn
  refine Ra.of (fun c w r g => Rn.aload_n n136_162 l0 g) ?_
  refine Ra.of (fun c w r g => Rn.ic (v := (-1)) n136_163 (by decide) g) ?_
  obtain ⟨hp57, hhp57, h⟩ := Option.bind_eq_some_iff.mp h
  refine Ra.of (fun c w r g => Rn.pf n136_164 mo136 fl11_74 ft11_30 rfl ff11_30 (fun _ _ hh => by cases hh) hhp57 g) ?_
  have hn := (pfv_len hhp57).trans hn
  refine Ra.of (fun c w r g => Rn.aload_n n136_167 l0 g) ?_
  refine Ra.of (fun c w r g => Rn.sp (v := 6400) n136_168 (by decide) g) ?_
  obtain ⟨hp58, hhp58, h⟩ := Option.bind_eq_some_iff.mp h
  refine Ra.nJ n136_171 hhp58 (by rw [hn]; exact ok) (by rw [hn]; exact (okc (okr r_v0) okn)) ?_ 
  have rn59 : hp57.length < hp58.length := by rw [nwJ_len hhp58]; exact Nat.lt_succ_self _
  have hle : hp54.length ≤ hp58.length := by rw [nwJ_len hhp58, hn]; exact Nat.le_succ _
  have rn3 := Nat.lt_of_lt_of_le rn3 hle
  have rn12 := Nat.lt_of_lt_of_le rn12 hle
  have rn16 := Nat.lt_of_lt_of_le rn16 hle
  have rn19 := Nat.lt_of_lt_of_le rn19 hle
  have rn22 := Nat.lt_of_lt_of_le rn22 hle
  have rn25 := Nat.lt_of_lt_of_le rn25 hle
  have rn28 := Nat.lt_of_lt_of_le rn28 hle
  have rn31 := Nat.lt_of_lt_of_le rn31 hle
  have rn34 := Nat.lt_of_lt_of_le rn34 hle
  have rn37 := Nat.lt_of_lt_of_le rn37 hle
  have rn40 := Nat.lt_of_lt_of_le rn40 hle
  have rn6 := Nat.lt_of_lt_of_le rn6 hle
  have rn43 := Nat.lt_of_lt_of_le rn43 hle
  have rn46 := Nat.lt_of_lt_of_le rn46 hle
  have rn49 := Nat.lt_of_lt_of_le rn49 hle
  have rn52 := Nat.lt_of_lt_of_le rn52 hle
  have rn55 := Nat.lt_of_lt_of_le rn55 hle
  have rn9 := Nat.lt_of_lt_of_le rn9 hle
  have r_v0 := Nat.lt_of_lt_of_le r_v0 hle
  have ok := lvk_mono hle ok
  have hn : hp58.length = hp58.length := rfl
  obtain ⟨hp60, hhp60, h⟩ := Option.bind_eq_some_iff.mp h
  refine Ra.of (fun c w r g => Rn.pfF n136_173 mo136 fl11_77 ft11_32 rfl mi136 rfl hhp60 g) ?_
  have hn := (pfv_len hhp60).trans hn
  refine Ra.of (fun c w r g => Rn.aload_n n136_176 l0 g) ?_
  refine Ra.of (fun c w r g => Rn.sp (v := 256) n136_177 (by decide) g) ?_
  obtain ⟨hp61, hhp61, h⟩ := Option.bind_eq_some_iff.mp h
  refine Ra.nI n136_180 hhp61 (by rw [hn]; exact ok) (by rw [hn]; exact (okc (okr r_v0) okn)) ?_ 
  have rn62 : hp60.length < hp61.length := by rw [nwI_len hhp61]; exact Nat.lt_succ_self _
  have hle : hp58.length ≤ hp61.length := by rw [nwI_len hhp61, hn]; exact Nat.le_succ _
  have rn3 := Nat.lt_of_lt_of_le rn3 hle
  have rn12 := Nat.lt_of_lt_of_le rn12 hle
  have rn16 := Nat.lt_of_lt_of_le rn16 hle
  have rn19 := Nat.lt_of_lt_of_le rn19 hle
  have rn22 := Nat.lt_of_lt_of_le rn22 hle
  have rn25 := Nat.lt_of_lt_of_le rn25 hle
  have rn28 := Nat.lt_of_lt_of_le rn28 hle
  have rn31 := Nat.lt_of_lt_of_le rn31 hle
  have rn34 := Nat.lt_of_lt_of_le rn34 hle
  have rn37 := Nat.lt_of_lt_of_le rn37 hle
  have rn40 := Nat.lt_of_lt_of_le rn40 hle
  have rn6 := Nat.lt_of_lt_of_le rn6 hle
  have rn43 := Nat.lt_of_lt_of_le rn43 hle
  have rn46 := Nat.lt_of_lt_of_le rn46 hle
  have rn49 := Nat.lt_of_lt_of_le rn49 hle
  have rn52 := Nat.lt_of_lt_of_le rn52 hle
  have rn55 := Nat.lt_of_lt_of_le rn55 hle
  have rn59 := Nat.lt_of_lt_of_le rn59 hle
  have rn9 := Nat.lt_of_lt_of_le rn9 hle
  have r_v0 := Nat.lt_of_lt_of_le r_v0 hle
  have ok := lvk_mono hle ok
  have hn : hp61.length = hp61.length := rfl
  obtain ⟨hp63, hhp63, h⟩ := Option.bind_eq_some_iff.mp h
  refine Ra.of (fun c w r g => Rn.pfF n136_182 mo136 fl11_80 ft11_33 rfl mi136 rfl hhp63 g) ?_
  have hn := (pfv_len hhp63).trans hn
  refine Ra.of (fun c w r g => Rn.aload_n n136_185 l0 g) ?_
  refine Ra.of (fun c w r g => Rn.sp (v := 1280) n136_186 (by decide) g) ?_
  obtain ⟨hp64, hhp64, h⟩ := Option.bind_eq_some_iff.mp h
  refine Ra.nI n136_189 hhp64 (by rw [hn]; exact ok) (by rw [hn]; exact (okc (okr r_v0) okn)) ?_ 
  have rn65 : hp63.length < hp64.length := by rw [nwI_len hhp64]; exact Nat.lt_succ_self _
  have hle : hp61.length ≤ hp64.length := by rw [nwI_len hhp64, hn]; exact Nat.le_succ _
  have rn3 := Nat.lt_of_lt_of_le rn3 hle
  have rn12 := Nat.lt_of_lt_of_le rn12 hle
  have rn16 := Nat.lt_of_lt_of_le rn16 hle
  have rn19 := Nat.lt_of_lt_of_le rn19 hle
  have rn22 := Nat.lt_of_lt_of_le rn22 hle
  have rn25 := Nat.lt_of_lt_of_le rn25 hle
  have rn28 := Nat.lt_of_lt_of_le rn28 hle
  have rn31 := Nat.lt_of_lt_of_le rn31 hle
  have rn34 := Nat.lt_of_lt_of_le rn34 hle
  have rn37 := Nat.lt_of_lt_of_le rn37 hle
  have rn40 := Nat.lt_of_lt_of_le rn40 hle
  have rn6 := Nat.lt_of_lt_of_le rn6 hle
  have rn43 := Nat.lt_of_lt_of_le rn43 hle
  have rn46 := Nat.lt_of_lt_of_le rn46 hle
  have rn49 := Nat.lt_of_lt_of_le rn49 hle
  have rn52 := Nat.lt_of_lt_of_le rn52 hle
  have rn55 := Nat.lt_of_lt_of_le rn55 hle
  have rn59 := Nat.lt_of_lt_of_le rn59 hle
  have rn62 := Nat.lt_of_lt_of_le rn62 hle
  have rn9 := Nat.lt_of_lt_of_le rn9 hle
  have r_v0 := Nat.lt_of_lt_of_le r_v0 hle
  have ok := lvk_mono hle ok
  have hn : hp64.length = hp64.length := rfl
  obtain ⟨hp66, hhp66, h⟩ := Option.bind_eq_some_iff.mp h
  refine Ra.of (fun c w r g => Rn.pfF n136_191 mo136 fl11_83 ft11_34 rfl mi136 rfl hhp66 g) ?_
  have hn := (pfv_len hhp66).trans hn
  refine Ra.of (fun c w r g => Rn.aload_n n136_194 l0 g) ?_
  refine Ra.of (fun c w r g => Rn.sp (v := 1280) n136_195 (by decide) g) ?_
  obtain ⟨hp67, hhp67, h⟩ := Option.bind_eq_some_iff.mp h
  refine Ra.nZ n136_198 hhp67 (by rw [hn]; exact ok) (by rw [hn]; exact (okc (okr r_v0) okn)) ?_ 
  have rn68 : hp66.length < hp67.length := by rw [nwZ_len hhp67]; exact Nat.lt_succ_self _
  have hle : hp64.length ≤ hp67.length := by rw [nwZ_len hhp67, hn]; exact Nat.le_succ _
  have rn3 := Nat.lt_of_lt_of_le rn3 hle
  have rn12 := Nat.lt_of_lt_of_le rn12 hle
  have rn16 := Nat.lt_of_lt_of_le rn16 hle
  have rn19 := Nat.lt_of_lt_of_le rn19 hle
  have rn22 := Nat.lt_of_lt_of_le rn22 hle
  have rn25 := Nat.lt_of_lt_of_le rn25 hle
  have rn28 := Nat.lt_of_lt_of_le rn28 hle
  have rn31 := Nat.lt_of_lt_of_le rn31 hle
  have rn34 := Nat.lt_of_lt_of_le rn34 hle
  have rn37 := Nat.lt_of_lt_of_le rn37 hle
  have rn40 := Nat.lt_of_lt_of_le rn40 hle
  have rn6 := Nat.lt_of_lt_of_le rn6 hle
  have rn43 := Nat.lt_of_lt_of_le rn43 hle
  have rn46 := Nat.lt_of_lt_of_le rn46 hle
  have rn49 := Nat.lt_of_lt_of_le rn49 hle
  have rn52 := Nat.lt_of_lt_of_le rn52 hle
  have rn55 := Nat.lt_of_lt_of_le rn55 hle
  have rn59 := Nat.lt_of_lt_of_le rn59 hle
  have rn62 := Nat.lt_of_lt_of_le rn62 hle
  have rn65 := Nat.lt_of_lt_of_le rn65 hle
  have rn9 := Nat.lt_of_lt_of_le rn9 hle
  have r_v0 := Nat.lt_of_lt_of_le r_v0 hle
  have ok := lvk_mono hle ok
  have hn : hp67.length = hp67.length := rfl
  obtain ⟨hp69, hhp69, h⟩ := Option.bind_eq_some_iff.mp h
  refine Ra.of (fun c w r g => Rn.pfF n136_200 mo136 fl11_86 ft11_35 rfl mi136 rfl hhp69 g) ?_
  have hn := (pfv_len hhp69).trans hn
  refine Ra.of (fun c w r g => Rn.aload_n n136_203 l0 g) ?_
  refine Ra.of (fun c w r g => Rn.sp (v := 2304) n136_204 (by decide) g) ?_
  obtain ⟨hp70, hhp70, h⟩ := Option.bind_eq_some_iff.mp h
  refine Ra.nI n136_207 hhp70 (by rw [hn]; exact ok) (by rw [hn]; exact (okc (okr r_v0) okn)) ?_ 
  have rn71 : hp69.length < hp70.length := by rw [nwI_len hhp70]; exact Nat.lt_succ_self _
  have hle : hp67.length ≤ hp70.length := by rw [nwI_len hhp70, hn]; exact Nat.le_succ _
  have rn3 := Nat.lt_of_lt_of_le rn3 hle
  have rn12 := Nat.lt_of_lt_of_le rn12 hle
  have rn16 := Nat.lt_of_lt_of_le rn16 hle
  have rn19 := Nat.lt_of_lt_of_le rn19 hle
  have rn22 := Nat.lt_of_lt_of_le rn22 hle
  have rn25 := Nat.lt_of_lt_of_le rn25 hle
  have rn28 := Nat.lt_of_lt_of_le rn28 hle
  have rn31 := Nat.lt_of_lt_of_le rn31 hle
  have rn34 := Nat.lt_of_lt_of_le rn34 hle
  have rn37 := Nat.lt_of_lt_of_le rn37 hle
  have rn40 := Nat.lt_of_lt_of_le rn40 hle
  have rn6 := Nat.lt_of_lt_of_le rn6 hle
  have rn43 := Nat.lt_of_lt_of_le rn43 hle
  have rn46 := Nat.lt_of_lt_of_le rn46 hle
  have rn49 := Nat.lt_of_lt_of_le rn49 hle
  have rn52 := Nat.lt_of_lt_of_le rn52 hle
  have rn55 := Nat.lt_of_lt_of_le rn55 hle
  have rn59 := Nat.lt_of_lt_of_le rn59 hle
  have rn62 := Nat.lt_of_lt_of_le rn62 hle
  have rn65 := Nat.lt_of_lt_of_le rn65 hle
  have rn68 := Nat.lt_of_lt_of_le rn68 hle
  have rn9 := Nat.lt_of_lt_of_le rn9 hle
  have r_v0 := Nat.lt_of_lt_of_le r_v0 hle
  have ok := lvk_mono hle ok
  have hn : hp70.length = hp70.length := rfl
  obtain ⟨hp72, hhp72, h⟩ := Option.bind_eq_some_iff.mp h
  refine Ra.of (fun c w r g => Rn.pfF n136_209 mo136 fl11_89 ft11_36 rfl mi136 rfl hhp72 g) ?_
  have hn := (pfv_len hhp72).trans hn
  refine Ra.of (fun c w r g => Rn.aload_n n136_212 l0 g) ?_
  refine Ra.of (fun c w r g => Rn.sp (v := 2304) n136_213 (by decide) g) ?_
  obtain ⟨hp73, hhp73, h⟩ := Option.bind_eq_some_iff.mp h
  refine Ra.nI n136_216 hhp73 (by rw [hn]; exact ok) (by rw [hn]; exact (okc (okr r_v0) okn)) ?_ 
  have rn74 : hp72.length < hp73.length := by rw [nwI_len hhp73]; exact Nat.lt_succ_self _
  have hle : hp70.length ≤ hp73.length := by rw [nwI_len hhp73, hn]; exact Nat.le_succ _
  have rn3 := Nat.lt_of_lt_of_le rn3 hle
  have rn12 := Nat.lt_of_lt_of_le rn12 hle
  have rn16 := Nat.lt_of_lt_of_le rn16 hle
  have rn19 := Nat.lt_of_lt_of_le rn19 hle
  have rn22 := Nat.lt_of_lt_of_le rn22 hle
  have rn25 := Nat.lt_of_lt_of_le rn25 hle
  have rn28 := Nat.lt_of_lt_of_le rn28 hle
  have rn31 := Nat.lt_of_lt_of_le rn31 hle
  have rn34 := Nat.lt_of_lt_of_le rn34 hle
  have rn37 := Nat.lt_of_lt_of_le rn37 hle
  have rn40 := Nat.lt_of_lt_of_le rn40 hle
  have rn6 := Nat.lt_of_lt_of_le rn6 hle
  have rn43 := Nat.lt_of_lt_of_le rn43 hle
  have rn46 := Nat.lt_of_lt_of_le rn46 hle
  have rn49 := Nat.lt_of_lt_of_le rn49 hle
  have rn52 := Nat.lt_of_lt_of_le rn52 hle
  have rn55 := Nat.lt_of_lt_of_le rn55 hle
  have rn59 := Nat.lt_of_lt_of_le rn59 hle
  have rn62 := Nat.lt_of_lt_of_le rn62 hle
  have rn65 := Nat.lt_of_lt_of_le rn65 hle
  have rn68 := Nat.lt_of_lt_of_le rn68 hle
  have rn71 := Nat.lt_of_lt_of_le rn71 hle
  have rn9 := Nat.lt_of_lt_of_le rn9 hle
  have r_v0 := Nat.lt_of_lt_of_le r_v0 hle
  have ok := lvk_mono hle ok
  have hn : hp73.length = hp73.length := rfl
  obtain ⟨hp75, hhp75, h⟩ := Option.bind_eq_some_iff.mp h
  refine Ra.of (fun c w r g => Rn.pfF n136_218 mo136 fl11_92 ft11_37 rfl mi136 rfl hhp75 g) ?_
  have hn := (pfv_len hhp75).trans hn
  refine Ra.of (fun c w r g => Rn.aload_n n136_221 l0 g) ?_
  refine Ra.of (fun c w r g => Rn.bp (v := 9) n136_222 (by decide) g) ?_
  obtain ⟨hp76, hhp76, h⟩ := Option.bind_eq_some_iff.mp h
  refine Ra.nI n136_224 hhp76 (by rw [hn]; exact ok) (by rw [hn]; exact (okc (okr r_v0) okn)) ?_ 
  have rn77 : hp75.length < hp76.length := by rw [nwI_len hhp76]; exact Nat.lt_succ_self _
  have hle : hp73.length ≤ hp76.length := by rw [nwI_len hhp76, hn]; exact Nat.le_succ _
  have rn3 := Nat.lt_of_lt_of_le rn3 hle
  have rn12 := Nat.lt_of_lt_of_le rn12 hle
  have rn16 := Nat.lt_of_lt_of_le rn16 hle
  have rn19 := Nat.lt_of_lt_of_le rn19 hle
  have rn22 := Nat.lt_of_lt_of_le rn22 hle
  have rn25 := Nat.lt_of_lt_of_le rn25 hle
  have rn28 := Nat.lt_of_lt_of_le rn28 hle
  have rn31 := Nat.lt_of_lt_of_le rn31 hle
  have rn34 := Nat.lt_of_lt_of_le rn34 hle
  have rn37 := Nat.lt_of_lt_of_le rn37 hle
  have rn40 := Nat.lt_of_lt_of_le rn40 hle
  have rn6 := Nat.lt_of_lt_of_le rn6 hle
  have rn43 := Nat.lt_of_lt_of_le rn43 hle
  have rn46 := Nat.lt_of_lt_of_le rn46 hle
  have rn49 := Nat.lt_of_lt_of_le rn49 hle
  have rn52 := Nat.lt_of_lt_of_le rn52 hle
  have rn55 := Nat.lt_of_lt_of_le rn55 hle
  have rn59 := Nat.lt_of_lt_of_le rn59 hle
  have rn62 := Nat.lt_of_lt_of_le rn62 hle
  have rn65 := Nat.lt_of_lt_of_le rn65 hle
  have rn68 := Nat.lt_of_lt_of_le rn68 hle
  have rn71 := Nat.lt_of_lt_of_le rn71 hle
  have rn9 := Nat.lt_of_lt_of_le rn9 hle
  have rn74 := Nat.lt_of_lt_of_le rn74 hle
  have r_v0 := Nat.lt_of_lt_of_le r_v0 hle
  have ok := lvk_mono hle ok
  have hn : hp76.length = hp76.length := rfl
  obtain ⟨hp78, hhp78, h⟩ := Option.bind_eq_some_iff.mp h
  refine Ra.of (fun c w r g => Rn.pfF n136_226 mo136 fl11_95 ft11_38 rfl mi136 rfl hhp78 g) ?_
  have hn := (pfv_len hhp78).trans hn
  refine Ra.of (fun c w r g => Rn.aload_n n136_229 l0 g) ?_
  refine Ra.of (fun c w r g => Rn.sp (v := 2304) n136_230 (by decide) g) ?_
  obtain ⟨hp79, hhp79, h⟩ := Option.bind_eq_some_iff.mp h
  refine Ra.nI n136_233 hhp79 (by rw [hn]; exact ok) (by rw [hn]; exact (okc (okr r_v0) okn)) ?_ 
  have rn80 : hp78.length < hp79.length := by rw [nwI_len hhp79]; exact Nat.lt_succ_self _
  have hle : hp76.length ≤ hp79.length := by rw [nwI_len hhp79, hn]; exact Nat.le_succ _
  have rn3 := Nat.lt_of_lt_of_le rn3 hle
  have rn12 := Nat.lt_of_lt_of_le rn12 hle
  have rn16 := Nat.lt_of_lt_of_le rn16 hle
  have rn19 := Nat.lt_of_lt_of_le rn19 hle
  have rn22 := Nat.lt_of_lt_of_le rn22 hle
  have rn25 := Nat.lt_of_lt_of_le rn25 hle
  have rn28 := Nat.lt_of_lt_of_le rn28 hle
  have rn31 := Nat.lt_of_lt_of_le rn31 hle
  have rn34 := Nat.lt_of_lt_of_le rn34 hle
  have rn37 := Nat.lt_of_lt_of_le rn37 hle
  have rn40 := Nat.lt_of_lt_of_le rn40 hle
  have rn6 := Nat.lt_of_lt_of_le rn6 hle
  have rn43 := Nat.lt_of_lt_of_le rn43 hle
  have rn46 := Nat.lt_of_lt_of_le rn46 hle
  have rn49 := Nat.lt_of_lt_of_le rn49 hle
  have rn52 := Nat.lt_of_lt_of_le rn52 hle
  have rn55 := Nat.lt_of_lt_of_le rn55 hle
  have rn59 := Nat.lt_of_lt_of_le rn59 hle
  have rn62 := Nat.lt_of_lt_of_le rn62 hle
  have rn65 := Nat.lt_of_lt_of_le rn65 hle
  have rn68 := Nat.lt_of_lt_of_le rn68 hle
  have rn71 := Nat.lt_of_lt_of_le rn71 hle
  have rn9 := Nat.lt_of_lt_of_le rn9 hle
  have rn74 := Nat.lt_of_lt_of_le rn74 hle
  have rn77 := Nat.lt_of_lt_of_le rn77 hle
  have r_v0 := Nat.lt_of_lt_of_le r_v0 hle
  have ok := lvk_mono hle ok
  have hn : hp79.length = hp79.length := rfl
  obtain ⟨hp81, hhp81, h⟩ := Option.bind_eq_some_iff.mp h
  refine Ra.of (fun c w r g => Rn.pfF n136_235 mo136 fl11_98 ft11_39 rfl mi136 rfl hhp81 g) ?_
  have hn := (pfv_len hhp81).trans hn
  refine Ra.of (fun c w r g => Rn.aload_n n136_238 l0 g) ?_
  refine Ra.of (fun c w r g => Rn.sp (v := 2304) n136_239 (by decide) g) ?_
  obtain ⟨hp82, hhp82, h⟩ := Option.bind_eq_some_iff.mp h
  refine Ra.nI n136_242 hhp82 (by rw [hn]; exact ok) (by rw [hn]; exact (okc (okr r_v0) okn)) ?_ 
  have rn83 : hp81.length < hp82.length := by rw [nwI_len hhp82]; exact Nat.lt_succ_self _
  have hle : hp79.length ≤ hp82.length := by rw [nwI_len hhp82, hn]; exact Nat.le_succ _
  have rn3 := Nat.lt_of_lt_of_le rn3 hle
  have rn12 := Nat.lt_of_lt_of_le rn12 hle
  have rn16 := Nat.lt_of_lt_of_le rn16 hle
  have rn19 := Nat.lt_of_lt_of_le rn19 hle
  have rn22 := Nat.lt_of_lt_of_le rn22 hle
  have rn25 := Nat.lt_of_lt_of_le rn25 hle
  have rn28 := Nat.lt_of_lt_of_le rn28 hle
  have rn31 := Nat.lt_of_lt_of_le rn31 hle
  have rn34 := Nat.lt_of_lt_of_le rn34 hle
  have rn37 := Nat.lt_of_lt_of_le rn37 hle
  have rn40 := Nat.lt_of_lt_of_le rn40 hle
  have rn6 := Nat.lt_of_lt_of_le rn6 hle
  have rn43 := Nat.lt_of_lt_of_le rn43 hle
  have rn46 := Nat.lt_of_lt_of_le rn46 hle
  have rn49 := Nat.lt_of_lt_of_le rn49 hle
  have rn52 := Nat.lt_of_lt_of_le rn52 hle
  have rn55 := Nat.lt_of_lt_of_le rn55 hle
  have rn59 := Nat.lt_of_lt_of_le rn59 hle
  have rn62 := Nat.lt_of_lt_of_le rn62 hle
  have rn65 := Nat.lt_of_lt_of_le rn65 hle
  have rn68 := Nat.lt_of_lt_of_le rn68 hle
  have rn71 := Nat.lt_of_lt_of_le rn71 hle
  have rn9 := Nat.lt_of_lt_of_le rn9 hle
  have rn74 := Nat.lt_of_lt_of_le rn74 hle
  have rn77 := Nat.lt_of_lt_of_le rn77 hle
  have rn80 := Nat.lt_of_lt_of_le rn80 hle
  have r_v0 := Nat.lt_of_lt_of_le r_v0 hle
  have ok := lvk_mono hle ok
  have hn : hp82.length = hp82.length := rfl
  obtain ⟨hp84, hhp84, h⟩ := Option.bind_eq_some_iff.mp h
  refine Ra.of (fun c w r g => Rn.pfF n136_244 mo136 fl11_101 ft11_40 rfl mi136 rfl hhp84 g) ?_
  have hn := (pfv_len hhp84).trans hn
  refine Ra.of (fun c w r g => Rn.ic (v := 0) n136_247 (by decide) g) ?_
  refine Ra.isn (m := hp82.length) n136_248 rfl ml136 (by decide) (fun lv l1 hk hok => ?_)
  have l0 := hk 0 _ (by decide) (Or.inl rfl) l0
  have ok := hok ok
  exact t136_249 hd F  F _ _ lv _ _ _ l0 l1 ok hn r_v0  h
def e136 (F : Nat) (a0 : Nat) (hp : List mE) : Option (Unit × List mE) := m136_0 F a0 hp
theorem a136 {d : Nat} (hd : 1 ≤ d) (F : Nat) (a0 : Nat) (hp : List mE) (v : Unit) (hp' : List mE) (ra0 : a0 < hp.length) (h : e136 F a0 hp = some (v, hp')) : Ra d 136 0 (lv_args 0 [.ref a0]) [] hp (none) hp' :=
  t136_0 (n := hp.length) hd F a0 (lv_args 0 [.ref a0]) hp v hp' rfl (lvk_args (okc (okr ra0) okn)) rfl ra0 h
