/-! The pieces of the search, put together. -/
theorem ky_1 : KG 0 1 0 [] := KG_o (by decide) 1 0 [] (by decide) kx_1
theorem ky_2 : KG 1 2 0 [] := KG_o (by decide) 2 0 [] (by decide) kx_2
theorem ky_3 : KG 2 3 0 [] := KG_o (by decide) 3 0 [] (by decide) kx_3
theorem ky_4 : KG 3 4 0 [] := KG_o (by decide) 4 0 [] (by decide) kx_4
theorem ky_5 : KG 4 5 0 [] := KG_o (by decide) 5 0 [] (by decide) kx_5
theorem ky_6 : KG 5 6 0 [] := KG_o (by decide) 6 0 [] (by decide) kx_6
theorem ky_7 : KG 6 5 1 [0, 0] := KG_o (by decide) 5 1 [0, 0] (by decide) kx_7
theorem ky_8 : KG 6 4 2 [0, 1, 0] := KG_o (by decide) 4 2 [0, 1, 0] (by decide) kx_8
theorem ky_9 : KG 6 4 2 [1, 1, 0] := KG_o (by decide) 4 2 [1, 1, 0] (by decide) kx_9
theorem ky_10 : KG 6 3 3 [0, 2, 1, 0] := KG_o (by decide) 3 3 [0, 2, 1, 0] (by decide) kx_10
theorem ky_11 : KG 6 3 3 [1, 2, 1, 0] := KG_o (by decide) 3 3 [1, 2, 1, 0] (by decide) kx_11
theorem ky_12 : KG 6 3 3 [2, 2, 1, 0] := KG_o (by decide) 3 3 [2, 2, 1, 0] (by decide) kx_12
theorem ky_13 : KG 6 3 4 [3, 2, 1, 0] := KG_o (by decide) 3 4 [3, 2, 1, 0] (by decide) kx_13
theorem ky_14 : KG 6 4 3 [2, 1, 0] := by
  refine KG_s (fun s s1 s2 => ?_)
  have h : s = 0 ∨ s = 1 ∨ s = 2 ∨ s = 3 := by omega
  rcases h with e | e | e | e
  · rw [e]
    exact ky_10
  · rw [e]
    exact ky_11
  · rw [e]
    exact ky_12
  · rw [e]
    exact ky_13
theorem ky_15 : KG 6 5 2 [1, 0] := by
  refine KG_s (fun s s1 s2 => ?_)
  have h : s = 0 ∨ s = 1 ∨ s = 2 := by omega
  rcases h with e | e | e
  · rw [e]
    exact ky_8
  · rw [e]
    exact ky_9
  · rw [e]
    exact ky_14
theorem ky_16 : KG 6 6 1 [0] := by
  refine KG_s (fun s s1 s2 => ?_)
  have h : s = 0 ∨ s = 1 := by omega
  rcases h with e | e
  · rw [e]
    exact ky_7
  · rw [e]
    exact ky_15
theorem ky_17 : KG 6 7 0 [] := by
  refine KG_s (fun s s1 s2 => ?_)
  have e : s = 0 := by omega
  rw [e]
  exact ky_16
theorem ky_18 : KG 7 6 1 [0, 0] := KG_o (by decide) 6 1 [0, 0] (by decide) kx_14
theorem ky_19 : KG 7 4 2 [0, 0, 1, 0] := KG_o (by decide) 4 2 [0, 0, 1, 0] (by decide) kx_15
theorem ky_20 : KG 7 4 2 [1, 0, 1, 0] := KG_o (by decide) 4 2 [1, 0, 1, 0] (by decide) kx_16
theorem ky_21 : KG 7 3 3 [0, 2, 0, 1, 0] := KG_o (by decide) 3 3 [0, 2, 0, 1, 0] (by decide) kx_17
theorem ky_22 : KG 7 3 3 [1, 2, 0, 1, 0] := KG_o (by decide) 3 3 [1, 2, 0, 1, 0] (by decide) kx_18
theorem ky_23 : KG 7 3 3 [2, 2, 0, 1, 0] := KG_o (by decide) 3 3 [2, 2, 0, 1, 0] (by decide) kx_19
theorem ky_24 : KG 7 2 4 [0, 3, 2, 0, 1, 0] := KG_o (by decide) 2 4 [0, 3, 2, 0, 1, 0] (by decide) kx_20
theorem ky_25 : KG 7 2 4 [1, 3, 2, 0, 1, 0] := KG_o (by decide) 2 4 [1, 3, 2, 0, 1, 0] (by decide) kx_21
theorem ky_26 : KG 7 2 4 [2, 3, 2, 0, 1, 0] := KG_o (by decide) 2 4 [2, 3, 2, 0, 1, 0] (by decide) kx_22
theorem ky_27 : KG 7 2 4 [3, 3, 2, 0, 1, 0] := KG_o (by decide) 2 4 [3, 3, 2, 0, 1, 0] (by decide) kx_23
theorem ky_28 : KG 7 1 5 [0, 4, 3, 2, 0, 1, 0] := KG_o (by decide) 1 5 [0, 4, 3, 2, 0, 1, 0] (by decide) kx_24
theorem ky_29 : KG 7 1 5 [1, 4, 3, 2, 0, 1, 0] := KG_o (by decide) 1 5 [1, 4, 3, 2, 0, 1, 0] (by decide) kx_25
theorem ky_30 : KG 7 1 5 [2, 4, 3, 2, 0, 1, 0] := KG_o (by decide) 1 5 [2, 4, 3, 2, 0, 1, 0] (by decide) kx_26
theorem ky_31 : KG 7 1 5 [3, 4, 3, 2, 0, 1, 0] := KG_o (by decide) 1 5 [3, 4, 3, 2, 0, 1, 0] (by decide) kx_27
theorem ky_32 : KG 7 1 5 [4, 4, 3, 2, 0, 1, 0] := KG_o (by decide) 1 5 [4, 4, 3, 2, 0, 1, 0] (by decide) kx_28
theorem ky_33 : KG 7 2 5 [4, 3, 2, 0, 1, 0] := by
  refine KG_s (fun s s1 s2 => ?_)
  have h : s = 0 ∨ s = 1 ∨ s = 2 ∨ s = 3 ∨ s = 4 := by omega
  rcases h with e | e | e | e | e
  · rw [e]
    exact ky_28
  · rw [e]
    exact ky_29
  · rw [e]
    exact ky_30
  · rw [e]
    exact ky_31
  · rw [e]
    exact ky_32
theorem ky_34 : KG 7 3 4 [3, 2, 0, 1, 0] := by
  refine KG_s (fun s s1 s2 => ?_)
  have h : s = 0 ∨ s = 1 ∨ s = 2 ∨ s = 3 ∨ s = 4 := by omega
  rcases h with e | e | e | e | e
  · rw [e]
    exact ky_24
  · rw [e]
    exact ky_25
  · rw [e]
    exact ky_26
  · rw [e]
    exact ky_27
  · rw [e]
    exact ky_33
theorem ky_35 : KG 7 4 3 [2, 0, 1, 0] := by
  refine KG_s (fun s s1 s2 => ?_)
  have h : s = 0 ∨ s = 1 ∨ s = 2 ∨ s = 3 := by omega
  rcases h with e | e | e | e
  · rw [e]
    exact ky_21
  · rw [e]
    exact ky_22
  · rw [e]
    exact ky_23
  · rw [e]
    exact ky_34
theorem ky_36 : KG 7 5 2 [0, 1, 0] := by
  refine KG_s (fun s s1 s2 => ?_)
  have h : s = 0 ∨ s = 1 ∨ s = 2 := by omega
  rcases h with e | e | e
  · rw [e]
    exact ky_19
  · rw [e]
    exact ky_20
  · rw [e]
    exact ky_35
theorem ky_37 : KG 7 5 2 [1, 1, 0] := KG_o (by decide) 5 2 [1, 1, 0] (by decide) kx_29
theorem ky_38 : KG 7 3 3 [0, 0, 2, 1, 0] := KG_o (by decide) 3 3 [0, 0, 2, 1, 0] (by decide) kx_30
theorem ky_39 : KG 7 3 3 [1, 0, 2, 1, 0] := KG_o (by decide) 3 3 [1, 0, 2, 1, 0] (by decide) kx_31
theorem ky_40 : KG 7 3 3 [2, 0, 2, 1, 0] := KG_o (by decide) 3 3 [2, 0, 2, 1, 0] (by decide) kx_32
theorem ky_41 : KG 7 2 4 [0, 3, 0, 2, 1, 0] := KG_o (by decide) 2 4 [0, 3, 0, 2, 1, 0] (by decide) kx_33
theorem ky_42 : KG 7 1 4 [0, 1, 3, 0, 2, 1, 0] := KG_o (by decide) 1 4 [0, 1, 3, 0, 2, 1, 0] (by decide) kx_34
theorem ky_43 : KG 7 1 4 [1, 1, 3, 0, 2, 1, 0] := KG_o (by decide) 1 4 [1, 1, 3, 0, 2, 1, 0] (by decide) kx_35
theorem ky_44 : KG 7 1 4 [2, 1, 3, 0, 2, 1, 0] := KG_o (by decide) 1 4 [2, 1, 3, 0, 2, 1, 0] (by decide) kx_36
theorem ky_45 : KG 7 1 4 [3, 1, 3, 0, 2, 1, 0] := KG_o (by decide) 1 4 [3, 1, 3, 0, 2, 1, 0] (by decide) kx_37
theorem ky_46 : KG 7 1 5 [4, 1, 3, 0, 2, 1, 0] := KG_o (by decide) 1 5 [4, 1, 3, 0, 2, 1, 0] (by decide) kx_38
theorem ky_47 : KG 7 2 4 [1, 3, 0, 2, 1, 0] := by
  refine KG_s (fun s s1 s2 => ?_)
  have h : s = 0 ∨ s = 1 ∨ s = 2 ∨ s = 3 ∨ s = 4 := by omega
  rcases h with e | e | e | e | e
  · rw [e]
    exact ky_42
  · rw [e]
    exact ky_43
  · rw [e]
    exact ky_44
  · rw [e]
    exact ky_45
  · rw [e]
    exact ky_46
theorem ky_48 : KG 7 2 4 [2, 3, 0, 2, 1, 0] := KG_o (by decide) 2 4 [2, 3, 0, 2, 1, 0] (by decide) kx_39
theorem ky_49 : KG 7 2 4 [3, 3, 0, 2, 1, 0] := KG_o (by decide) 2 4 [3, 3, 0, 2, 1, 0] (by decide) kx_40
theorem ky_50 : KG 7 1 5 [0, 4, 3, 0, 2, 1, 0] := KG_o (by decide) 1 5 [0, 4, 3, 0, 2, 1, 0] (by decide) kx_41
theorem ky_51 : KG 7 0 5 [0, 1, 4, 3, 0, 2, 1, 0] := KG_o (by decide) 0 5 [0, 1, 4, 3, 0, 2, 1, 0] (by decide) kx_42
theorem ky_52 : KG 7 0 5 [1, 1, 4, 3, 0, 2, 1, 0] := KG_o (by decide) 0 5 [1, 1, 4, 3, 0, 2, 1, 0] (by decide) kx_43
theorem ky_53 : KG 7 0 5 [2, 1, 4, 3, 0, 2, 1, 0] := KG_o (by decide) 0 5 [2, 1, 4, 3, 0, 2, 1, 0] (by decide) kx_44
theorem ky_54 : KG 7 0 5 [3, 1, 4, 3, 0, 2, 1, 0] := KG_o (by decide) 0 5 [3, 1, 4, 3, 0, 2, 1, 0] (by decide) kx_45
theorem ky_55 : KG 7 0 5 [4, 1, 4, 3, 0, 2, 1, 0] := KG_o (by decide) 0 5 [4, 1, 4, 3, 0, 2, 1, 0] (by decide) kx_46
theorem ky_56 : KG 7 1 5 [1, 4, 3, 0, 2, 1, 0] := by
  refine KG_s (fun s s1 s2 => ?_)
  have h : s = 0 ∨ s = 1 ∨ s = 2 ∨ s = 3 ∨ s = 4 := by omega
  rcases h with e | e | e | e | e
  · rw [e]
    exact ky_51
  · rw [e]
    exact ky_52
  · rw [e]
    exact ky_53
  · rw [e]
    exact ky_54
  · rw [e]
    exact ky_55
theorem ky_57 : KG 7 1 5 [2, 4, 3, 0, 2, 1, 0] := KG_o (by decide) 1 5 [2, 4, 3, 0, 2, 1, 0] (by decide) kx_47
theorem ky_58 : KG 7 1 5 [3, 4, 3, 0, 2, 1, 0] := KG_o (by decide) 1 5 [3, 4, 3, 0, 2, 1, 0] (by decide) kx_48
theorem ky_59 : KG 7 1 5 [4, 4, 3, 0, 2, 1, 0] := KG_o (by decide) 1 5 [4, 4, 3, 0, 2, 1, 0] (by decide) kx_49
theorem ky_60 : KG 7 2 5 [4, 3, 0, 2, 1, 0] := by
  refine KG_s (fun s s1 s2 => ?_)
  have h : s = 0 ∨ s = 1 ∨ s = 2 ∨ s = 3 ∨ s = 4 := by omega
  rcases h with e | e | e | e | e
  · rw [e]
    exact ky_50
  · rw [e]
    exact ky_56
  · rw [e]
    exact ky_57
  · rw [e]
    exact ky_58
  · rw [e]
    exact ky_59
theorem ky_61 : KG 7 3 4 [3, 0, 2, 1, 0] := by
  refine KG_s (fun s s1 s2 => ?_)
  have h : s = 0 ∨ s = 1 ∨ s = 2 ∨ s = 3 ∨ s = 4 := by omega
  rcases h with e | e | e | e | e
  · rw [e]
    exact ky_41
  · rw [e]
    exact ky_47
  · rw [e]
    exact ky_48
  · rw [e]
    exact ky_49
  · rw [e]
    exact ky_60
theorem ky_62 : KG 7 4 3 [0, 2, 1, 0] := by
  refine KG_s (fun s s1 s2 => ?_)
  have h : s = 0 ∨ s = 1 ∨ s = 2 ∨ s = 3 := by omega
  rcases h with e | e | e | e
  · rw [e]
    exact ky_38
  · rw [e]
    exact ky_39
  · rw [e]
    exact ky_40
  · rw [e]
    exact ky_61
theorem ky_63 : KG 7 4 3 [1, 2, 1, 0] := KG_o (by decide) 4 3 [1, 2, 1, 0] (by decide) kx_50
theorem ky_64 : KG 7 4 3 [2, 2, 1, 0] := KG_o (by decide) 4 3 [2, 2, 1, 0] (by decide) kx_51
theorem ky_65 : KG 7 2 4 [0, 0, 3, 2, 1, 0] := KG_o (by decide) 2 4 [0, 0, 3, 2, 1, 0] (by decide) kx_52
theorem ky_66 : KG 7 1 4 [0, 1, 0, 3, 2, 1, 0] := KG_o (by decide) 1 4 [0, 1, 0, 3, 2, 1, 0] (by decide) kx_53
theorem ky_67 : KG 7 1 4 [1, 1, 0, 3, 2, 1, 0] := KG_o (by decide) 1 4 [1, 1, 0, 3, 2, 1, 0] (by decide) kx_54
theorem ky_68 : KG 7 0 4 [0, 2, 1, 0, 3, 2, 1, 0] := KG_o (by decide) 0 4 [0, 2, 1, 0, 3, 2, 1, 0] (by decide) kx_55
theorem ky_69 : KG 7 0 4 [1, 2, 1, 0, 3, 2, 1, 0] := KG_o (by decide) 0 4 [1, 2, 1, 0, 3, 2, 1, 0] (by decide) kx_56
theorem ky_70 : KG 7 0 4 [2, 2, 1, 0, 3, 2, 1, 0] := KG_o (by decide) 0 4 [2, 2, 1, 0, 3, 2, 1, 0] (by decide) kx_57
theorem ky_71 : kpn 7 4 [3, 2, 1, 0, 3, 2, 1, 0] [(1, 1)] := kpn_r (by decide) (by decide) (by decide +kernel) kx_58
theorem ky_72 : kpn 7 4 [3, 2, 1, 0, 3, 2, 1, 0] [(1, 2)] := kpn_r (by decide) (by decide) (by decide +kernel) kx_59
theorem ky_73 : kpn 7 4 [3, 2, 1, 0, 3, 2, 1, 0] [(1, 3)] := kpn_r (by decide) (by decide) (by decide +kernel) kx_60
theorem ky_74 : kpn 7 4 [3, 2, 1, 0, 3, 2, 1, 0] [(1, 4)] := kpn_r (by decide) (by decide) (by decide +kernel) kx_61
theorem ky_75 : kpn 7 4 [3, 2, 1, 0, 3, 2, 1, 0] [] := kpn_s (i := 0) (j := 1) (c := 1) (by decide) (by decide) (by decide) (by decide) (by decide +kernel) ky_71 (Or.inr ky_72) (Or.inr ky_73) (Or.inr ky_74) (Or.inl (by decide +kernel))
theorem ky_76 : KG 7 0 4 [3, 2, 1, 0, 3, 2, 1, 0] := KG_w ky_75
theorem ky_77 : KG 7 0 5 [4, 2, 1, 0, 3, 2, 1, 0] := KG_o (by decide) 0 5 [4, 2, 1, 0, 3, 2, 1, 0] (by decide) kx_62
theorem ky_78 : KG 7 1 4 [2, 1, 0, 3, 2, 1, 0] := by
  refine KG_s (fun s s1 s2 => ?_)
  have h : s = 0 ∨ s = 1 ∨ s = 2 ∨ s = 3 ∨ s = 4 := by omega
  rcases h with e | e | e | e | e
  · rw [e]
    exact ky_68
  · rw [e]
    exact ky_69
  · rw [e]
    exact ky_70
  · rw [e]
    exact ky_76
  · rw [e]
    exact ky_77
theorem ky_79 : KG 7 1 4 [3, 1, 0, 3, 2, 1, 0] := KG_o (by decide) 1 4 [3, 1, 0, 3, 2, 1, 0] (by decide) kx_63
theorem ky_80 : KG 7 1 5 [4, 1, 0, 3, 2, 1, 0] := KG_o (by decide) 1 5 [4, 1, 0, 3, 2, 1, 0] (by decide) kx_64
theorem ky_81 : KG 7 2 4 [1, 0, 3, 2, 1, 0] := by
  refine KG_s (fun s s1 s2 => ?_)
  have h : s = 0 ∨ s = 1 ∨ s = 2 ∨ s = 3 ∨ s = 4 := by omega
  rcases h with e | e | e | e | e
  · rw [e]
    exact ky_66
  · rw [e]
    exact ky_67
  · rw [e]
    exact ky_78
  · rw [e]
    exact ky_79
  · rw [e]
    exact ky_80
theorem ky_82 : KG 7 2 4 [2, 0, 3, 2, 1, 0] := KG_o (by decide) 2 4 [2, 0, 3, 2, 1, 0] (by decide) kx_65
theorem ky_83 : KG 7 2 4 [3, 0, 3, 2, 1, 0] := KG_o (by decide) 2 4 [3, 0, 3, 2, 1, 0] (by decide) kx_66
theorem ky_84 : KG 7 1 5 [0, 4, 0, 3, 2, 1, 0] := KG_o (by decide) 1 5 [0, 4, 0, 3, 2, 1, 0] (by decide) kx_67
theorem ky_85 : KG 7 0 5 [0, 1, 4, 0, 3, 2, 1, 0] := KG_o (by decide) 0 5 [0, 1, 4, 0, 3, 2, 1, 0] (by decide) kx_68
theorem ky_86 : KG 7 0 5 [1, 1, 4, 0, 3, 2, 1, 0] := KG_o (by decide) 0 5 [1, 1, 4, 0, 3, 2, 1, 0] (by decide) kx_69
theorem ky_87 : kpn 7 5 [2, 1, 4, 0, 3, 2, 1, 0] [(1, 1)] := kpn_r (by decide) (by decide) (by decide +kernel) kx_70
theorem ky_88 : kpn 7 5 [2, 1, 4, 0, 3, 2, 1, 0] [(2, 1), (1, 2)] := kpn_r (by decide) (by decide) (by decide +kernel) kx_71
theorem ky_89 : kpn 7 5 [2, 1, 4, 0, 3, 2, 1, 0] [(2, 2), (1, 2)] := kpn_r (by decide) (by decide) (by decide +kernel) kx_72
theorem ky_90 : kpn 7 5 [2, 1, 4, 0, 3, 2, 1, 0] [(2, 3), (1, 2)] := kpn_r (by decide) (by decide) (by decide +kernel) kx_73
theorem ky_91 : kpn 7 5 [2, 1, 4, 0, 3, 2, 1, 0] [(2, 4), (1, 2)] := kpn_r (by decide) (by decide) (by decide +kernel) kx_74
theorem ky_92 : kpn 7 5 [2, 1, 4, 0, 3, 2, 1, 0] [(1, 2)] := kpn_s (i := 0) (j := 2) (c := 2) (by decide) (by decide) (by decide) (by decide) (by decide +kernel) ky_88 (Or.inr ky_89) (Or.inr ky_90) (Or.inr ky_91) (Or.inl (by decide +kernel))
theorem ky_93 : kpn 7 5 [2, 1, 4, 0, 3, 2, 1, 0] [(2, 1), (1, 3)] := kpn_r (by decide) (by decide) (by decide +kernel) kx_75
theorem ky_94 : kpn 7 5 [2, 1, 4, 0, 3, 2, 1, 0] [(2, 2), (1, 3)] := kpn_r (by decide) (by decide) (by decide +kernel) kx_76
theorem ky_95 : kpn 7 5 [2, 1, 4, 0, 3, 2, 1, 0] [(2, 3), (1, 3)] := kpn_r (by decide) (by decide) (by decide +kernel) kx_77
theorem ky_96 : kpn 7 5 [2, 1, 4, 0, 3, 2, 1, 0] [(2, 4), (1, 3)] := kpn_r (by decide) (by decide) (by decide +kernel) kx_78
theorem ky_97 : kpn 7 5 [2, 1, 4, 0, 3, 2, 1, 0] [(1, 3)] := kpn_s (i := 0) (j := 2) (c := 2) (by decide) (by decide) (by decide) (by decide) (by decide +kernel) ky_93 (Or.inr ky_94) (Or.inr ky_95) (Or.inr ky_96) (Or.inl (by decide +kernel))
theorem ky_98 : kpn 7 5 [2, 1, 4, 0, 3, 2, 1, 0] [(1, 4)] := kpn_r (by decide) (by decide) (by decide +kernel) kx_79
theorem ky_99 : kpn 7 5 [2, 1, 4, 0, 3, 2, 1, 0] [] := kpn_s (i := 0) (j := 1) (c := 1) (by decide) (by decide) (by decide) (by decide) (by decide +kernel) ky_87 (Or.inr ky_92) (Or.inr ky_97) (Or.inr ky_98) (Or.inl (by decide +kernel))
theorem ky_100 : KG 7 0 5 [2, 1, 4, 0, 3, 2, 1, 0] := KG_w ky_99
theorem ky_101 : KG 7 0 5 [3, 1, 4, 0, 3, 2, 1, 0] := KG_o (by decide) 0 5 [3, 1, 4, 0, 3, 2, 1, 0] (by decide) kx_80
theorem ky_102 : KG 7 0 5 [4, 1, 4, 0, 3, 2, 1, 0] := KG_o (by decide) 0 5 [4, 1, 4, 0, 3, 2, 1, 0] (by decide) kx_81
theorem ky_103 : KG 7 1 5 [1, 4, 0, 3, 2, 1, 0] := by
  refine KG_s (fun s s1 s2 => ?_)
  have h : s = 0 ∨ s = 1 ∨ s = 2 ∨ s = 3 ∨ s = 4 := by omega
  rcases h with e | e | e | e | e
  · rw [e]
    exact ky_85
  · rw [e]
    exact ky_86
  · rw [e]
    exact ky_100
  · rw [e]
    exact ky_101
  · rw [e]
    exact ky_102
theorem ky_104 : KG 7 1 5 [2, 4, 0, 3, 2, 1, 0] := KG_o (by decide) 1 5 [2, 4, 0, 3, 2, 1, 0] (by decide) kx_82
theorem ky_105 : KG 7 1 5 [3, 4, 0, 3, 2, 1, 0] := KG_o (by decide) 1 5 [3, 4, 0, 3, 2, 1, 0] (by decide) kx_83
theorem ky_106 : KG 7 1 5 [4, 4, 0, 3, 2, 1, 0] := KG_o (by decide) 1 5 [4, 4, 0, 3, 2, 1, 0] (by decide) kx_84
theorem ky_107 : KG 7 2 5 [4, 0, 3, 2, 1, 0] := by
  refine KG_s (fun s s1 s2 => ?_)
  have h : s = 0 ∨ s = 1 ∨ s = 2 ∨ s = 3 ∨ s = 4 := by omega
  rcases h with e | e | e | e | e
  · rw [e]
    exact ky_84
  · rw [e]
    exact ky_103
  · rw [e]
    exact ky_104
  · rw [e]
    exact ky_105
  · rw [e]
    exact ky_106
theorem ky_108 : KG 7 3 4 [0, 3, 2, 1, 0] := by
  refine KG_s (fun s s1 s2 => ?_)
  have h : s = 0 ∨ s = 1 ∨ s = 2 ∨ s = 3 ∨ s = 4 := by omega
  rcases h with e | e | e | e | e
  · rw [e]
    exact ky_65
  · rw [e]
    exact ky_81
  · rw [e]
    exact ky_82
  · rw [e]
    exact ky_83
  · rw [e]
    exact ky_107
theorem ky_109 : KG 7 3 4 [1, 3, 2, 1, 0] := KG_o (by decide) 3 4 [1, 3, 2, 1, 0] (by decide) kx_85
theorem ky_110 : KG 7 2 4 [0, 2, 3, 2, 1, 0] := KG_o (by decide) 2 4 [0, 2, 3, 2, 1, 0] (by decide) kx_86
theorem ky_111 : KG 7 2 4 [1, 2, 3, 2, 1, 0] := KG_o (by decide) 2 4 [1, 2, 3, 2, 1, 0] (by decide) kx_87
theorem ky_112 : KG 7 2 4 [2, 2, 3, 2, 1, 0] := KG_o (by decide) 2 4 [2, 2, 3, 2, 1, 0] (by decide) kx_88
theorem ky_113 : KG 7 2 4 [3, 2, 3, 2, 1, 0] := KG_o (by decide) 2 4 [3, 2, 3, 2, 1, 0] (by decide) kx_89
theorem ky_114 : KG 7 0 5 [0, 0, 4, 2, 3, 2, 1, 0] := KG_o (by decide) 0 5 [0, 0, 4, 2, 3, 2, 1, 0] (by decide) kx_90
theorem ky_115 : kpn 7 5 [1, 0, 4, 2, 3, 2, 1, 0] [(1, 1)] := kpn_r (by decide) (by decide) (by decide +kernel) kx_91
theorem ky_116 : kpn 7 5 [1, 0, 4, 2, 3, 2, 1, 0] [(1, 2)] := kpn_r (by decide) (by decide) (by decide +kernel) kx_92
theorem ky_117 : kpn 7 5 [1, 0, 4, 2, 3, 2, 1, 0] [(2, 1), (1, 3)] := kpn_r (by decide) (by decide) (by decide +kernel) kx_93
theorem ky_118 : kpn 7 5 [1, 0, 4, 2, 3, 2, 1, 0] [(2, 2), (1, 3)] := kpn_r (by decide) (by decide) (by decide +kernel) kx_94
theorem ky_119 : kpn 7 5 [1, 0, 4, 2, 3, 2, 1, 0] [(2, 3), (1, 3)] := kpn_r (by decide) (by decide) (by decide +kernel) kx_95
theorem ky_120 : kpn 7 5 [1, 0, 4, 2, 3, 2, 1, 0] [(1, 3)] := kpn_s (i := 0) (j := 2) (c := 2) (by decide) (by decide) (by decide) (by decide) (by decide +kernel) ky_117 (Or.inr ky_118) (Or.inr ky_119) (Or.inl (by decide +kernel)) (Or.inl (by decide +kernel))
theorem ky_121 : kpn 7 5 [1, 0, 4, 2, 3, 2, 1, 0] [(1, 4)] := kpn_r (by decide) (by decide) (by decide +kernel) kx_96
theorem ky_122 : kpn 7 5 [1, 0, 4, 2, 3, 2, 1, 0] [] := kpn_s (i := 0) (j := 1) (c := 1) (by decide) (by decide) (by decide) (by decide) (by decide +kernel) ky_115 (Or.inr ky_116) (Or.inr ky_120) (Or.inr ky_121) (Or.inl (by decide +kernel))
theorem ky_123 : KG 7 0 5 [1, 0, 4, 2, 3, 2, 1, 0] := KG_w ky_122
theorem ky_124 : KG 7 0 5 [2, 0, 4, 2, 3, 2, 1, 0] := KG_o (by decide) 0 5 [2, 0, 4, 2, 3, 2, 1, 0] (by decide) kx_97
theorem ky_125 : KG 7 0 5 [3, 0, 4, 2, 3, 2, 1, 0] := KG_o (by decide) 0 5 [3, 0, 4, 2, 3, 2, 1, 0] (by decide) kx_98
theorem ky_126 : KG 7 0 5 [4, 0, 4, 2, 3, 2, 1, 0] := KG_o (by decide) 0 5 [4, 0, 4, 2, 3, 2, 1, 0] (by decide) kx_99
theorem ky_127 : KG 7 1 5 [0, 4, 2, 3, 2, 1, 0] := by
  refine KG_s (fun s s1 s2 => ?_)
  have h : s = 0 ∨ s = 1 ∨ s = 2 ∨ s = 3 ∨ s = 4 := by omega
  rcases h with e | e | e | e | e
  · rw [e]
    exact ky_114
  · rw [e]
    exact ky_123
  · rw [e]
    exact ky_124
  · rw [e]
    exact ky_125
  · rw [e]
    exact ky_126
theorem ky_128 : KG 7 1 5 [1, 4, 2, 3, 2, 1, 0] := KG_o (by decide) 1 5 [1, 4, 2, 3, 2, 1, 0] (by decide) kx_100
theorem ky_129 : KG 7 1 5 [2, 4, 2, 3, 2, 1, 0] := KG_o (by decide) 1 5 [2, 4, 2, 3, 2, 1, 0] (by decide) kx_101
theorem ky_130 : KG 7 1 5 [3, 4, 2, 3, 2, 1, 0] := KG_o (by decide) 1 5 [3, 4, 2, 3, 2, 1, 0] (by decide) kx_102
theorem ky_131 : KG 7 1 5 [4, 4, 2, 3, 2, 1, 0] := KG_o (by decide) 1 5 [4, 4, 2, 3, 2, 1, 0] (by decide) kx_103
theorem ky_132 : KG 7 2 5 [4, 2, 3, 2, 1, 0] := by
  refine KG_s (fun s s1 s2 => ?_)
  have h : s = 0 ∨ s = 1 ∨ s = 2 ∨ s = 3 ∨ s = 4 := by omega
  rcases h with e | e | e | e | e
  · rw [e]
    exact ky_127
  · rw [e]
    exact ky_128
  · rw [e]
    exact ky_129
  · rw [e]
    exact ky_130
  · rw [e]
    exact ky_131
theorem ky_133 : KG 7 3 4 [2, 3, 2, 1, 0] := by
  refine KG_s (fun s s1 s2 => ?_)
  have h : s = 0 ∨ s = 1 ∨ s = 2 ∨ s = 3 ∨ s = 4 := by omega
  rcases h with e | e | e | e | e
  · rw [e]
    exact ky_110
  · rw [e]
    exact ky_111
  · rw [e]
    exact ky_112
  · rw [e]
    exact ky_113
  · rw [e]
    exact ky_132
theorem ky_134 : KG 7 3 4 [3, 3, 2, 1, 0] := KG_o (by decide) 3 4 [3, 3, 2, 1, 0] (by decide) kx_104
theorem ky_135 : KG 7 1 5 [0, 0, 4, 3, 2, 1, 0] := KG_o (by decide) 1 5 [0, 0, 4, 3, 2, 1, 0] (by decide) kx_105
theorem ky_136 : KG 7 0 5 [0, 1, 0, 4, 3, 2, 1, 0] := KG_o (by decide) 0 5 [0, 1, 0, 4, 3, 2, 1, 0] (by decide) kx_106
theorem ky_137 : KG 7 0 5 [1, 1, 0, 4, 3, 2, 1, 0] := KG_o (by decide) 0 5 [1, 1, 0, 4, 3, 2, 1, 0] (by decide) kx_107
theorem ky_138 : kpn 7 5 [2, 1, 0, 4, 3, 2, 1, 0] [(1, 1)] := kpn_r (by decide) (by decide) (by decide +kernel) kx_108
theorem ky_139 : kpn 7 5 [2, 1, 0, 4, 3, 2, 1, 0] [(2, 1), (1, 2)] := kpn_r (by decide) (by decide) (by decide +kernel) kx_109
theorem ky_140 : kpn 7 5 [2, 1, 0, 4, 3, 2, 1, 0] [(2, 2), (1, 2)] := kpn_r (by decide) (by decide) (by decide +kernel) kx_110
theorem ky_141 : kpn 7 5 [2, 1, 0, 4, 3, 2, 1, 0] [(2, 3), (1, 2)] := kpn_r (by decide) (by decide) (by decide +kernel) kx_111
theorem ky_142 : kpn 7 5 [2, 1, 0, 4, 3, 2, 1, 0] [(2, 4), (1, 2)] := kpn_r (by decide) (by decide) (by decide +kernel) kx_112
theorem ky_143 : kpn 7 5 [2, 1, 0, 4, 3, 2, 1, 0] [(1, 2)] := kpn_s (i := 0) (j := 2) (c := 2) (by decide) (by decide) (by decide) (by decide) (by decide +kernel) ky_139 (Or.inr ky_140) (Or.inr ky_141) (Or.inr ky_142) (Or.inl (by decide +kernel))
theorem ky_144 : kpn 7 5 [2, 1, 0, 4, 3, 2, 1, 0] [(2, 1), (1, 3)] := kpn_r (by decide) (by decide) (by decide +kernel) kx_113
theorem ky_145 : kpn 7 5 [2, 1, 0, 4, 3, 2, 1, 0] [(2, 2), (1, 3)] := kpn_r (by decide) (by decide) (by decide +kernel) kx_114
theorem ky_146 : kpn 7 5 [2, 1, 0, 4, 3, 2, 1, 0] [(10, 1), (2, 3), (1, 3)] := kpn_r (by decide) (by decide) (by decide +kernel) kx_115
theorem ky_147 : kpn 7 5 [2, 1, 0, 4, 3, 2, 1, 0] [(10, 2), (2, 3), (1, 3)] := kpn_r (by decide) (by decide) (by decide +kernel) kx_116
theorem ky_148 : kpn 7 5 [2, 1, 0, 4, 3, 2, 1, 0] [(10, 3), (2, 3), (1, 3)] := kpn_r (by decide) (by decide) (by decide +kernel) kx_117
theorem ky_149 : kpn 7 5 [2, 1, 0, 4, 3, 2, 1, 0] [(10, 4), (2, 3), (1, 3)] := kpn_r (by decide) (by decide) (by decide +kernel) kx_118
theorem ky_150 : kpn 7 5 [2, 1, 0, 4, 3, 2, 1, 0] [(2, 3), (1, 3)] := kpn_s (i := 1) (j := 2) (c := 10) (by decide) (by decide) (by decide) (by decide) (by decide +kernel) ky_146 (Or.inr ky_147) (Or.inr ky_148) (Or.inr ky_149) (Or.inl (by decide +kernel))
theorem ky_151 : kpn 7 5 [2, 1, 0, 4, 3, 2, 1, 0] [(2, 4), (1, 3)] := kpn_r (by decide) (by decide) (by decide +kernel) kx_119
theorem ky_152 : kpn 7 5 [2, 1, 0, 4, 3, 2, 1, 0] [(1, 3)] := kpn_s (i := 0) (j := 2) (c := 2) (by decide) (by decide) (by decide) (by decide) (by decide +kernel) ky_144 (Or.inr ky_145) (Or.inr ky_150) (Or.inr ky_151) (Or.inl (by decide +kernel))
theorem ky_153 : kpn 7 5 [2, 1, 0, 4, 3, 2, 1, 0] [(1, 4)] := kpn_r (by decide) (by decide) (by decide +kernel) kx_120
theorem ky_154 : kpn 7 5 [2, 1, 0, 4, 3, 2, 1, 0] [] := kpn_s (i := 0) (j := 1) (c := 1) (by decide) (by decide) (by decide) (by decide) (by decide +kernel) ky_138 (Or.inr ky_143) (Or.inr ky_152) (Or.inr ky_153) (Or.inl (by decide +kernel))
theorem ky_155 : KG 7 0 5 [2, 1, 0, 4, 3, 2, 1, 0] := KG_w ky_154
theorem ky_156 : KG 7 0 5 [3, 1, 0, 4, 3, 2, 1, 0] := KG_o (by decide) 0 5 [3, 1, 0, 4, 3, 2, 1, 0] (by decide) kx_121
theorem ky_157 : KG 7 0 5 [4, 1, 0, 4, 3, 2, 1, 0] := KG_o (by decide) 0 5 [4, 1, 0, 4, 3, 2, 1, 0] (by decide) kx_122
theorem ky_158 : KG 7 1 5 [1, 0, 4, 3, 2, 1, 0] := by
  refine KG_s (fun s s1 s2 => ?_)
  have h : s = 0 ∨ s = 1 ∨ s = 2 ∨ s = 3 ∨ s = 4 := by omega
  rcases h with e | e | e | e | e
  · rw [e]
    exact ky_136
  · rw [e]
    exact ky_137
  · rw [e]
    exact ky_155
  · rw [e]
    exact ky_156
  · rw [e]
    exact ky_157
theorem ky_159 : KG 7 1 5 [2, 0, 4, 3, 2, 1, 0] := KG_o (by decide) 1 5 [2, 0, 4, 3, 2, 1, 0] (by decide) kx_123
theorem ky_160 : KG 7 1 5 [3, 0, 4, 3, 2, 1, 0] := KG_o (by decide) 1 5 [3, 0, 4, 3, 2, 1, 0] (by decide) kx_124
theorem ky_161 : KG 7 1 5 [4, 0, 4, 3, 2, 1, 0] := KG_o (by decide) 1 5 [4, 0, 4, 3, 2, 1, 0] (by decide) kx_125
theorem ky_162 : KG 7 2 5 [0, 4, 3, 2, 1, 0] := by
  refine KG_s (fun s s1 s2 => ?_)
  have h : s = 0 ∨ s = 1 ∨ s = 2 ∨ s = 3 ∨ s = 4 := by omega
  rcases h with e | e | e | e | e
  · rw [e]
    exact ky_135
  · rw [e]
    exact ky_158
  · rw [e]
    exact ky_159
  · rw [e]
    exact ky_160
  · rw [e]
    exact ky_161
theorem ky_163 : KG 7 2 5 [1, 4, 3, 2, 1, 0] := KG_o (by decide) 2 5 [1, 4, 3, 2, 1, 0] (by decide) kx_126
theorem ky_164 : KG 7 0 5 [0, 0, 2, 4, 3, 2, 1, 0] := KG_o (by decide) 0 5 [0, 0, 2, 4, 3, 2, 1, 0] (by decide) kx_127
theorem ky_165 : kpn 7 5 [1, 0, 2, 4, 3, 2, 1, 0] [(1, 1)] := kpn_r (by decide) (by decide) (by decide +kernel) kx_128
theorem ky_166 : kpn 7 5 [1, 0, 2, 4, 3, 2, 1, 0] [(3, 1), (2, 1), (1, 2)] := kpn_r (by decide) (by decide) (by decide +kernel) kx_129
theorem ky_167 : kpn 7 5 [1, 0, 2, 4, 3, 2, 1, 0] [(3, 2), (2, 1), (1, 2)] := kpn_r (by decide) (by decide) (by decide +kernel) kx_130
theorem ky_168 : kpn 7 5 [1, 0, 2, 4, 3, 2, 1, 0] [(3, 3), (2, 1), (1, 2)] := kpn_r (by decide) (by decide) (by decide +kernel) kx_131
theorem ky_169 : kpn 7 5 [1, 0, 2, 4, 3, 2, 1, 0] [(2, 1), (1, 2)] := kpn_s (i := 0) (j := 3) (c := 3) (by decide) (by decide) (by decide) (by decide) (by decide +kernel) ky_166 (Or.inr ky_167) (Or.inr ky_168) (Or.inl (by decide +kernel)) (Or.inl (by decide +kernel))
theorem ky_170 : kpn 7 5 [1, 0, 2, 4, 3, 2, 1, 0] [(2, 2), (1, 2)] := kpn_r (by decide) (by decide) (by decide +kernel) kx_132
theorem ky_171 : kpn 7 5 [1, 0, 2, 4, 3, 2, 1, 0] [(3, 1), (2, 3), (1, 2)] := kpn_r (by decide) (by decide) (by decide +kernel) kx_133
theorem ky_172 : kpn 7 5 [1, 0, 2, 4, 3, 2, 1, 0] [(3, 2), (2, 3), (1, 2)] := kpn_r (by decide) (by decide) (by decide +kernel) kx_134
theorem ky_173 : kpn 7 5 [1, 0, 2, 4, 3, 2, 1, 0] [(3, 3), (2, 3), (1, 2)] := kpn_r (by decide) (by decide) (by decide +kernel) kx_135
theorem ky_174 : kpn 7 5 [1, 0, 2, 4, 3, 2, 1, 0] [(2, 3), (1, 2)] := kpn_s (i := 0) (j := 3) (c := 3) (by decide) (by decide) (by decide) (by decide) (by decide +kernel) ky_171 (Or.inr ky_172) (Or.inr ky_173) (Or.inl (by decide +kernel)) (Or.inl (by decide +kernel))
theorem ky_175 : kpn 7 5 [1, 0, 2, 4, 3, 2, 1, 0] [(1, 2)] := kpn_s (i := 0) (j := 2) (c := 2) (by decide) (by decide) (by decide) (by decide) (by decide +kernel) ky_169 (Or.inr ky_170) (Or.inr ky_174) (Or.inl (by decide +kernel)) (Or.inl (by decide +kernel))
theorem ky_176 : kpn 7 5 [1, 0, 2, 4, 3, 2, 1, 0] [(3, 1), (2, 1), (1, 3)] := kpn_r (by decide) (by decide) (by decide +kernel) kx_136
theorem ky_177 : kpn 7 5 [1, 0, 2, 4, 3, 2, 1, 0] [(3, 2), (2, 1), (1, 3)] := kpn_r (by decide) (by decide) (by decide +kernel) kx_137
theorem ky_178 : kpn 7 5 [1, 0, 2, 4, 3, 2, 1, 0] [(3, 3), (2, 1), (1, 3)] := kpn_r (by decide) (by decide) (by decide +kernel) kx_138
theorem ky_179 : kpn 7 5 [1, 0, 2, 4, 3, 2, 1, 0] [(2, 1), (1, 3)] := kpn_s (i := 0) (j := 3) (c := 3) (by decide) (by decide) (by decide) (by decide) (by decide +kernel) ky_176 (Or.inr ky_177) (Or.inr ky_178) (Or.inl (by decide +kernel)) (Or.inl (by decide +kernel))
theorem ky_180 : kpn 7 5 [1, 0, 2, 4, 3, 2, 1, 0] [(2, 2), (1, 3)] := kpn_r (by decide) (by decide) (by decide +kernel) kx_139
theorem ky_181 : kpn 7 5 [1, 0, 2, 4, 3, 2, 1, 0] [(3, 1), (2, 3), (1, 3)] := kpn_r (by decide) (by decide) (by decide +kernel) kx_140
theorem ky_182 : kpn 7 5 [1, 0, 2, 4, 3, 2, 1, 0] [(3, 2), (2, 3), (1, 3)] := kpn_r (by decide) (by decide) (by decide +kernel) kx_141
theorem ky_183 : kpn 7 5 [1, 0, 2, 4, 3, 2, 1, 0] [(3, 3), (2, 3), (1, 3)] := kpn_r (by decide) (by decide) (by decide +kernel) kx_142
theorem ky_184 : kpn 7 5 [1, 0, 2, 4, 3, 2, 1, 0] [(2, 3), (1, 3)] := kpn_s (i := 0) (j := 3) (c := 3) (by decide) (by decide) (by decide) (by decide) (by decide +kernel) ky_181 (Or.inr ky_182) (Or.inr ky_183) (Or.inl (by decide +kernel)) (Or.inl (by decide +kernel))
theorem ky_185 : kpn 7 5 [1, 0, 2, 4, 3, 2, 1, 0] [(1, 3)] := kpn_s (i := 0) (j := 2) (c := 2) (by decide) (by decide) (by decide) (by decide) (by decide +kernel) ky_179 (Or.inr ky_180) (Or.inr ky_184) (Or.inl (by decide +kernel)) (Or.inl (by decide +kernel))
theorem ky_186 : kpn 7 5 [1, 0, 2, 4, 3, 2, 1, 0] [(1, 4)] := kpn_r (by decide) (by decide) (by decide +kernel) kx_143
theorem ky_187 : kpn 7 5 [1, 0, 2, 4, 3, 2, 1, 0] [] := kpn_s (i := 0) (j := 1) (c := 1) (by decide) (by decide) (by decide) (by decide) (by decide +kernel) ky_165 (Or.inr ky_175) (Or.inr ky_185) (Or.inr ky_186) (Or.inl (by decide +kernel))
theorem ky_188 : KG 7 0 5 [1, 0, 2, 4, 3, 2, 1, 0] := KG_w ky_187
theorem ky_189 : KG 7 0 5 [2, 0, 2, 4, 3, 2, 1, 0] := KG_o (by decide) 0 5 [2, 0, 2, 4, 3, 2, 1, 0] (by decide) kx_144
theorem ky_190 : KG 7 0 5 [3, 0, 2, 4, 3, 2, 1, 0] := KG_o (by decide) 0 5 [3, 0, 2, 4, 3, 2, 1, 0] (by decide) kx_145
theorem ky_191 : KG 7 0 5 [4, 0, 2, 4, 3, 2, 1, 0] := KG_o (by decide) 0 5 [4, 0, 2, 4, 3, 2, 1, 0] (by decide) kx_146
theorem ky_192 : KG 7 1 5 [0, 2, 4, 3, 2, 1, 0] := by
  refine KG_s (fun s s1 s2 => ?_)
  have h : s = 0 ∨ s = 1 ∨ s = 2 ∨ s = 3 ∨ s = 4 := by omega
  rcases h with e | e | e | e | e
  · rw [e]
    exact ky_164
  · rw [e]
    exact ky_188
  · rw [e]
    exact ky_189
  · rw [e]
    exact ky_190
  · rw [e]
    exact ky_191
theorem ky_193 : KG 7 1 5 [1, 2, 4, 3, 2, 1, 0] := KG_o (by decide) 1 5 [1, 2, 4, 3, 2, 1, 0] (by decide) kx_147
theorem ky_194 : KG 7 1 5 [2, 2, 4, 3, 2, 1, 0] := KG_o (by decide) 1 5 [2, 2, 4, 3, 2, 1, 0] (by decide) kx_148
theorem ky_195 : KG 7 1 5 [3, 2, 4, 3, 2, 1, 0] := KG_o (by decide) 1 5 [3, 2, 4, 3, 2, 1, 0] (by decide) kx_149
theorem ky_196 : KG 7 1 5 [4, 2, 4, 3, 2, 1, 0] := KG_o (by decide) 1 5 [4, 2, 4, 3, 2, 1, 0] (by decide) kx_150
theorem ky_197 : KG 7 2 5 [2, 4, 3, 2, 1, 0] := by
  refine KG_s (fun s s1 s2 => ?_)
  have h : s = 0 ∨ s = 1 ∨ s = 2 ∨ s = 3 ∨ s = 4 := by omega
  rcases h with e | e | e | e | e
  · rw [e]
    exact ky_192
  · rw [e]
    exact ky_193
  · rw [e]
    exact ky_194
  · rw [e]
    exact ky_195
  · rw [e]
    exact ky_196
theorem ky_198 : KG 7 2 5 [3, 4, 3, 2, 1, 0] := KG_o (by decide) 2 5 [3, 4, 3, 2, 1, 0] (by decide) kx_151
theorem ky_199 : KG 7 2 5 [4, 4, 3, 2, 1, 0] := KG_o (by decide) 2 5 [4, 4, 3, 2, 1, 0] (by decide) kx_152
theorem ky_200 : KG 7 3 5 [4, 3, 2, 1, 0] := by
  refine KG_s (fun s s1 s2 => ?_)
  have h : s = 0 ∨ s = 1 ∨ s = 2 ∨ s = 3 ∨ s = 4 := by omega
  rcases h with e | e | e | e | e
  · rw [e]
    exact ky_162
  · rw [e]
    exact ky_163
  · rw [e]
    exact ky_197
  · rw [e]
    exact ky_198
  · rw [e]
    exact ky_199
theorem ky_201 : KG 7 4 4 [3, 2, 1, 0] := by
  refine KG_s (fun s s1 s2 => ?_)
  have h : s = 0 ∨ s = 1 ∨ s = 2 ∨ s = 3 ∨ s = 4 := by omega
  rcases h with e | e | e | e | e
  · rw [e]
    exact ky_108
  · rw [e]
    exact ky_109
  · rw [e]
    exact ky_133
  · rw [e]
    exact ky_134
  · rw [e]
    exact ky_200
theorem ky_202 : KG 7 5 3 [2, 1, 0] := by
  refine KG_s (fun s s1 s2 => ?_)
  have h : s = 0 ∨ s = 1 ∨ s = 2 ∨ s = 3 := by omega
  rcases h with e | e | e | e
  · rw [e]
    exact ky_62
  · rw [e]
    exact ky_63
  · rw [e]
    exact ky_64
  · rw [e]
    exact ky_201
theorem ky_203 : KG 7 6 2 [1, 0] := by
  refine KG_s (fun s s1 s2 => ?_)
  have h : s = 0 ∨ s = 1 ∨ s = 2 := by omega
  rcases h with e | e | e
  · rw [e]
    exact ky_36
  · rw [e]
    exact ky_37
  · rw [e]
    exact ky_202
theorem ky_204 : KG 7 7 1 [0] := by
  refine KG_s (fun s s1 s2 => ?_)
  have h : s = 0 ∨ s = 1 := by omega
  rcases h with e | e
  · rw [e]
    exact ky_18
  · rw [e]
    exact ky_203
theorem ky_205 : KG 7 8 0 [] := by
  refine KG_s (fun s s1 s2 => ?_)
  have e : s = 0 := by omega
  rw [e]
  exact ky_204
theorem kg_all : ∀ m, m ≤ 7 → KG m (m + 1) 0 [] := by
  intro m hm
  have h : m = 0 ∨ m = 1 ∨ m = 2 ∨ m = 3 ∨ m = 4 ∨ m = 5 ∨ m = 6 ∨ m = 7 := by omega
  rcases h with e | e | e | e | e | e | e | e
  · rw [e]
    exact ky_1
  · rw [e]
    exact ky_2
  · rw [e]
    exact ky_3
  · rw [e]
    exact ky_4
  · rw [e]
    exact ky_5
  · rw [e]
    exact ky_6
  · rw [e]
    exact ky_17
  · rw [e]
    exact ky_205
