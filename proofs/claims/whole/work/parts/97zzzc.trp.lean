/-! P in two groups, from what the passage keeps. -/
def trp (n : Nat) (A : Nat → Nat → Int) (n' : Nat) (A' : Nat → Nat → Int) (p : Nat → Nat) (W : List Nat) : Prop := (∀ x, cx_L n' x → cx_L n (x.map p)) ∧ (∀ x y, cx_L n' x → cx_L n' y → cx_g n' A' x = cx_g n' A' y → cx_g n A (x.map p) = cx_g n A (y.map p)) ∧ (∀ x, cx_L n' x → cx_l n' A' x = x.length → sbe n' A' x W → cx_l n A (x.map p) = x.length) ∧ ∀ x y, cx_L n' x → sbe n' A' x W → cx_L n' y → sbe n' A' y W → cx_g n A (x.map p) = cx_g n A (y.map p) → cx_g n' A' x = cx_g n' A' y
section S
variable {n n' : Nat} {A A' : Nat → Nat → Int} {p : Nat → Nat} {W : List Nat} {s t m : Nat} {w v u x y z : List Nat} {f f' : List Nat → Nat → Int}
theorem tq_L (T : trp n A n' A' p W) (hx : cx_L n' x) : cx_L n (x.map p) := T.1 x hx
theorem tq_n (T : trp n A n' A' p W) (sn : s < n') : p s < n := T.1 [s] (cx_L_1 sn) (p s) List.mem_cons_self
theorem tq_g (hok : cx_ok n A) (hok' : cx_ok n' A') (T : trp n A n' A' p W) (hx : cx_L n' x) (hy : cx_L n' y) (h : cx_g n' A' x = cx_g n' A' y) : cx_g n A (x.map p) = cx_g n A (y.map p) := T.2.1 x y hx hy h
theorem tq_l (hok : cx_ok n A) (hok' : cx_ok n' A') (T : trp n A n' A' p W) (hW : cx_L n' W) (lW : cx_l n' A' W = W.length) (k : Nat) (x : List Nat) (hk : x.length = k) (hx : cx_L n' x) (lx : cx_l n' A' x = x.length) (bx : sbe n' A' x W) : cx_l n A (x.map p) = x.length := T.2.2.1 x hx lx bx
theorem tq_inj (hok : cx_ok n A) (hok' : cx_ok n' A') (T : trp n A n' A' p W) (hW : cx_L n' W) (lW : cx_l n' A' W = W.length) (hx : cx_L n' x) (bx : sbe n' A' x W) (hy : cx_L n' y) (hyW : sbe n' A' y W) (h : cx_g n A (x.map p) = cx_g n A (y.map p)) : cx_g n' A' x = cx_g n' A' y := T.2.2.2 x y hx bx hy hyW h
theorem tq_len (hok : cx_ok n A) (hok' : cx_ok n' A') (T : trp n A n' A' p W) (hW : cx_L n' W) (lW : cx_l n' A' W = W.length) (hx : cx_L n' x) (bx : sbe n' A' x W) : cx_l n A (x.map p) = cx_l n' A' x := by
  obtain ⟨a1, a2, a3⟩ := rdw_sp (A := A') hx
  rw [← cx_l_eq (tq_g hok hok' T a1 hx a2), ← cx_l_eq a2, a3]
  exact tq_l hok hok' T hW lW _ _ rfl a1 a3 ((sbe_g1 a2).mpr bx)
theorem tq_dn (hok : cx_ok n A) (hok' : cx_ok n' A') (T : trp n A n' A' p W) (hW : cx_L n' W) (lW : cx_l n' A' W = W.length) (hx : cx_L n' x) (sn : s < n') (bx : sbe n' A' x W) (bs : sbe n' A' (x ++ [s]) W) : dn n A (x.map p) (p s) ↔ dn n' A' x s := by
  have e := tq_len hok hok' T hW lW (cx_L_app hx (cx_L_1 sn)) bs
  rw [List.map_append] at e
  unfold dn
  rw [← tq_len hok hok' T hW lW hx bx, ← e]
  exact Iff.rfl
theorem tq_ex (hok : cx_ok n A) (hok' : cx_ok n' A') (T : trp n A n' A' p W) (hW : cx_L n' W) (lW : cx_l n' A' W = W.length) (hw : cx_L n' w) (bw : sbe n' A' w W) (hu : cx_L n u) (h : sbe n A u (w.map p)) : ∃ u', cx_L n' u' ∧ sbe n' A' u' w ∧ cx_g n A (u'.map p) = cx_g n A u := by
  obtain ⟨a1, a2, a3⟩ := rdw_sp (A := A') hw
  have lr := tq_l hok hok' T hW lW _ _ rfl a1 a3 ((sbe_g1 a2).mpr bw)
  obtain ⟨z, hz, hg⟩ := (sbe_w hok hu (tq_L T a1) (by rw [lr, List.length_map]) (tq_L T hw) (tq_g hok hok' T a1 hw a2)).mp h
  obtain ⟨z', hz', e⟩ := List.sublist_map_iff.mp hz
  exact ⟨z', fun r hr => a1 r (hz'.subset hr), ⟨z', hz', rfl⟩, by rw [← e]; exact hg⟩
theorem tq_sbe (hok : cx_ok n A) (hok' : cx_ok n' A') (T : trp n A n' A' p W) (hW : cx_L n' W) (lW : cx_l n' A' W = W.length) (hw : cx_L n' w) (bw : sbe n' A' w W) (hu : cx_L n' u) (bu : sbe n' A' u W) : sbe n A (u.map p) (w.map p) ↔ sbe n' A' u w := by
  constructor
  · intro h
    obtain ⟨u', h1, h2, h3⟩ := tq_ex hok hok' T hW lW hw bw (tq_L T hu) h
    have := tq_inj hok hok' T hW lW h1 (sbe_tr hok' h1 hw hW h2 bw) hu bu h3
    exact (sbe_g1 this).mp h2
  · intro h
    obtain ⟨a1, a2, a3⟩ := rdw_sp (A := A') hw
    have lr := tq_l hok hok' T hW lW _ _ rfl a1 a3 ((sbe_g1 a2).mpr bw)
    obtain ⟨z, hz, hg⟩ := h
    have zL : cx_L n' z := fun r hr => a1 r (hz.subset hr)
    exact (sbe_w hok (tq_L T hu) (tq_L T a1) (by rw [lr, List.length_map]) (tq_L T hw) (tq_g hok hok' T a1 hw a2)).mpr ⟨z.map p, hz.map p, tq_g hok hok' T zL hu hg⟩
theorem tq_idl (hok : cx_ok n A) (hok' : cx_ok n' A') (T : trp n A n' A' p W) (hW : cx_L n' W) (lW : cx_l n' A' W = W.length) {v : List Nat} {Z : List (List Nat)} (hv : cx_L n' v) (bv : sbe n' A' v W) (hZ : idl n' A' v Z) : idl n A (v.map p) (Z.map (List.map p)) := by
  have gm : ∀ {i : Nat} {u : List Nat}, (Z.map (List.map p))[i]? = some u → ∃ z, Z[i]? = some z ∧ u = z.map p := by
    intro i u hu
    rw [List.getElem?_map] at hu
    cases hi : Z[i]? with
    | none => rw [hi] at hu; cases hu
    | some z =>
      rw [hi] at hu
      exact ⟨z, rfl, (Option.some.inj hu).symm⟩
  have bW : ∀ {i : Nat} {z : List Nat}, Z[i]? = some z → cx_L n' z ∧ sbe n' A' z v ∧ sbe n' A' z W := fun hi => ⟨(hZ.2.1 _ _ hi).1, (hZ.2.1 _ _ hi).2, sbe_tr hok' (hZ.2.1 _ _ hi).1 hv hW (hZ.2.1 _ _ hi).2 bv⟩
  refine ⟨fun i j a b ha hb hg => ?_, fun i a ha => ?_, fun z zL hz => ?_⟩
  · obtain ⟨a', ha', ea⟩ := gm ha
    obtain ⟨b', hb', eb⟩ := gm hb
    rw [ea, eb] at hg
    exact hZ.1 i j a' b' ha' hb' (tq_inj hok hok' T hW lW (bW ha').1 (bW ha').2.2 (bW hb').1 (bW hb').2.2 hg)
  · obtain ⟨a', ha', ea⟩ := gm ha
    obtain ⟨h1, h2, h3⟩ := bW ha'
    rw [ea]
    exact ⟨tq_L T h1, (tq_sbe hok hok' T hW lW hv bv h1 h3).mpr h2⟩
  · obtain ⟨z', h1, h2, h3⟩ := tq_ex hok hok' T hW lW hv bv zL hz
    obtain ⟨i, u, hu, hg⟩ := hZ.2.2 z' h1 h2
    refine ⟨i, u.map p, by rw [List.getElem?_map, hu]; rfl, ?_⟩
    rw [← h3]
    exact tq_g hok hok' T (bW hu).1 h1 hg
theorem tq_klo (hok : cx_ok n A) (hok' : cx_ok n' A') (T : trp n A n' A' p W) (hW : cx_L n' W) (lW : cx_l n' A' W = W.length) : ∀ (m : Nat) (w : List Nat) (f f' : List Nat → Nat → Int), cx_L n' w → cx_l n' A' w ≤ m → sbe n' A' w W → klo n' A' w f' → klo n A (w.map p) f → ∀ u, cx_L n' u → sbe n' A' u W → ∀ k, f (u.map p) k = f' u k := by
  have zero : ∀ (w : List Nat) (f f' : List Nat → Nat → Int), cx_L n' w → cx_l n' A' w = 0 → sbe n' A' w W → klo n' A' w f' → klo n A (w.map p) f → ∀ u, cx_L n' u → sbe n' A' u W → ∀ k, f (u.map p) k = f' u k := by
    intro w f f' hw l0 bw kf' kf u hu bu k
    rw [klo_un hok' hw kf' (klo_0 hok' hw l0) 0 u hu (by omega) k, klo_un hok (tq_L T hw) kf (klo_0 hok (tq_L T hw) (by rw [tq_len hok hok' T hW lW hw bw]; exact l0)) 0 (u.map p) (tq_L T hu) (by rw [tq_len hok hok' T hW lW hw bw, l0]; omega) k]
    unfold rd0
    rw [tq_len hok hok' T hW lW hu bu]
  intro m
  induction m with
  | zero => exact fun w f f' hw hl => zero w f f' hw (by omega)
  | succ m ih =>
    intro w f f' hw hl bw kf' kf u hu bu k
    by_cases h0 : cx_l n' A' w = 0
    · exact zero w f f' hw h0 bw kf' kf u hu bu k
    by_cases hb : sbe n' A' u w
    · obtain ⟨s, sn, hd0⟩ := cx_ex_dn hok' hw h0
      have hd : dn n' A' w s := hd0
      have psn := tq_n T sn
      have vL : cx_L n' (w ++ [s]) := cx_L_app hw (cx_L_1 sn)
      have vl := dn_1 hok' hw sn hd
      have vb := sbe_ws hok' hw sn hd
      have bv := sbe_tr hok' vL hw hW vb bw
      have wm := tq_L T hw
      have em : (w ++ [s]).map p = w.map p ++ [p s] := by rw [List.map_append]; rfl
      have vm : cx_L n (w.map p ++ [p s]) := cx_L_app wm (cx_L_1 psn)
      have hdm : dn n A (w.map p) (p s) := (tq_dn hok hok' T hW lW hw sn bw bv).mpr hd
      obtain ⟨g', hg'⟩ := klo_ex hok' _ (w ++ [s]) vL (Nat.le_refl _)
      obtain ⟨g, hg⟩ := klo_ex hok _ (w.map p ++ [p s]) vm (Nat.le_refl _)
      have hg2 : klo n A ((w ++ [s]).map p) g := by rw [em]; exact hg
      have G := ih (w ++ [s]) g g' vL (by omega) bv hg' hg2
      obtain ⟨Z, hZ⟩ := idl_ex (A := A') vL
      have hZm := tq_idl hok hok' T hW lW vL bv hZ
      rw [em] at hZm
      have hz' : ∀ z : List Nat, ∃ fz, cx_L n' z ∧ sbe n' A' z (w ++ [s]) → klo n' A' z fz := fun z => by
        by_cases h : cx_L n' z ∧ sbe n' A' z (w ++ [s])
        · obtain ⟨fz, hfz⟩ := klo_ex hok' _ z h.1 (Nat.le_refl _)
          exact ⟨fz, fun _ => hfz⟩
        · exact ⟨fun _ _ => 0, fun hh => absurd hh h⟩
      have hz : ∀ z : List Nat, ∃ fz, cx_L n z ∧ sbe n A z (w.map p ++ [p s]) → klo n A z fz := fun z => by
        by_cases h : cx_L n z ∧ sbe n A z (w.map p ++ [p s])
        · obtain ⟨fz, hfz⟩ := klo_ex hok _ z h.1 (Nat.le_refl _)
          exact ⟨fz, fun _ => hfz⟩
        · exact ⟨fun _ _ => 0, fun hh => absurd hh h⟩
      have K' := klo_s hok' hw sn hd hg' hZ (fun z _ h => h) (fz := fun z => Classical.choose (hz' z)) (fun z zL _ hb => Classical.choose_spec (hz' z) ⟨zL, hb⟩)
      have K := klo_s hok wm psn hdm hg hZm (fun z _ h => h) (fz := fun z => Classical.choose (hz z)) (fun z zL _ hb => Classical.choose_spec (hz z) ⟨zL, hb⟩)
      rw [klo_un hok' hw kf' K' (cx_l n' A' w) u hu (by omega) k, klo_un hok wm kf K (cx_l n A (w.map p)) (u.map p) (tq_L T hu) (by omega) k]
      show tau n A (p s) g (u.map p) k - lsm (fun z => lse n A (p s) (w.map p) (w.map p ++ [p s]) g (fun z => Classical.choose (hz z)) z (u.map p) k) (Z.map (List.map p)) = tau n' A' s g' u k - lsm (fun z => lse n' A' s w (w ++ [s]) g' (fun z => Classical.choose (hz' z)) z u k) Z
      have usb := sbe_s hok' hw sn hd hu hb
      have usL : cx_L n' (u ++ [s]) := cx_L_app hu (cx_L_1 sn)
      have usW := sbe_tr hok' usL hw hW usb bw
      have e1 : ∀ k, g (u.map p) k = g' u k := fun k => G u hu bu k
      have e2 : ∀ k, g (u.map p ++ [p s]) k = g' (u ++ [s]) k := fun k => by
        have := G (u ++ [s]) usL usW k
        rw [List.map_append] at this
        exact this
      have t1 : tau n A (p s) g (u.map p) k = tau n' A' s g' u k := by
        show cii (dn n A (u.map p) (p s)) (g (u.map p ++ [p s]) k + qs (g (u.map p)) k) (qs (g (u.map p ++ [p s])) k + g (u.map p) k) = cii (dn n' A' u s) (g' (u ++ [s]) k + qs (g' u) k) (qs (g' (u ++ [s])) k + g' u k)
        rw [e2 k, e1 k, qs_cg e1 k, qs_cg e2 k]
        exact cii_cg (tq_dn hok hok' T hW lW hu sn bu usW) (fun _ => rfl) (fun _ => rfl)
      rw [t1, lsm_mg]
      congr 1
      refine lsm_cg (fun i z hi => ?_)
      have zP := hZ.2.1 i z hi
      have zw := sbe_tr hok' zP.1 vL hw zP.2 vb
      have zW := sbe_tr hok' zP.1 vL hW zP.2 bv
      have zsL : cx_L n' (z ++ [s]) := cx_L_app zP.1 (cx_L_1 sn)
      have zsW := sbe_tr hok' zsL hw hW (sbe_s hok' hw sn hd zP.1 zw) bw
      have zm := tq_L T zP.1
      have zmb : sbe n A (z.map p) (w.map p ++ [p s]) := by
        rw [← em]
        exact (tq_sbe hok hok' T hW lW vL bv zP.1 zW).mpr zP.2
      have zk' := Classical.choose_spec (hz' z) ⟨zP.1, zP.2⟩
      have zk := Classical.choose_spec (hz (z.map p)) ⟨zm, zmb⟩
      have zl := (sbe_l vL zP.1 zP.2).1
      show cii (dn n A (z.map p) (p s)) (mu n A g (w.map p ++ [p s]) (z.map p) * qn ((cx_l n A (w.map p) - cx_l n A (z.map p)) / 2) (Classical.choose (hz (z.map p)) (u.map p)) k) 0 = cii (dn n' A' z s) (mu n' A' g' (w ++ [s]) z * qn ((cx_l n' A' w - cx_l n' A' z) / 2) (Classical.choose (hz' z) u) k) 0
      have lv := tq_len hok hok' T hW lW vL bv
      rw [em] at lv
      have lz := tq_len hok hok' T hW lW zP.1 zW
      have mm : mu n A g (w.map p ++ [p s]) (z.map p) = mu n' A' g' (w ++ [s]) z := by
        unfold mu
        rw [lv, lz, G z zP.1 zW]
      rw [mm, lz, tq_len hok hok' T hW lW hw bw, qn_cg (fun j => ih z _ _ zP.1 (by omega) zW zk' zk u hu bu j) _ k]
      exact cii_cg (tq_dn hok hok' T hW lW zP.1 sn zW zsW) (fun _ => rfl) (fun _ => rfl)
    · rw [kf'.2.1 u hu hb k, kf.2.1 (u.map p) (tq_L T hu) (fun h => hb ((tq_sbe hok hok' T hW lW hw bw hu bu).mp h)) k]
theorem tq_nn (hok : cx_ok n A) (hok' : cx_ok n' A') (T : trp n A n' A' p W) (hW : cx_L n' W) (lW : cx_l n' A' W = W.length) {f : List Nat → Nat → Int} (kf : klo n A (W.map p) f) (h : ∀ f', klo n' A' W f' → ∀ u, cx_L n' u → ∀ k, 0 ≤ f' u k) : ∀ u, cx_L n u → ∀ k, 0 ≤ f u k := by
  intro u hu k
  have rW := sbe_rf (A := A') hW
  by_cases hb : sbe n A u (W.map p)
  · obtain ⟨f', kf'⟩ := klo_ex hok' _ W hW (Nat.le_refl _)
    obtain ⟨u', h1, h2, h3⟩ := tq_ex hok hok' T hW lW hW rW hu hb
    rw [← kf.1 _ _ h3, tq_klo hok hok' T hW lW _ W f f' hW (Nat.le_refl _) rW kf' kf u' h1 h2 k]
    exact h f' kf' u' h1 k
  · rw [kf.2.1 u hu hb k]
    exact Int.le_refl _
end S
