noncomputable def r_Nu_leaveOver_44 (h : ja_H) : Option (ja_H) := (some h)
theorem t_Nu_leaveOver_44 {h : ja_H} : ja_D ja_gV M_Nu_leaveOver 44 [none, none] [] h (r_Nu_leaveOver_44 h) := by
  unfold r_Nu_leaveOver_44
  exact jd_return i_Nu_leaveOver_44 rfl
noncomputable def r_Nu_leaveOver_40 (h : ja_H) (y0 : Nat) : Option (ja_H) := (jk h y0 7 (jc_V (r_Va_becomeAny h y0) (fun h1 => (r_Nu_leaveOver_44 h1))))
theorem t_Nu_leaveOver_40 {h : ja_H} {y0 : Nat} : ja_D ja_gV M_Nu_leaveOver 40 [some (.ref y0), none] [] h (r_Nu_leaveOver_40 h y0) := by
  unfold r_Nu_leaveOver_40
  refine jd_aload_n i_Nu_leaveOver_40 rfl ?_
  refine jd_callVV G_Nu_98 in_Va_becomeAny se_Va_becomeAny rfl (fun _ e => c_Va_becomeAny e) rfl ⟨by decide, by decide⟩ rfl (Nat.le_of_ble_eq_true rfl) i_Nu_leaveOver_41 (fun h1 => ?_)
  exact jd_less (t_Nu_leaveOver_44) trivial
noncomputable def r_Nu_leaveOver (h : ja_H) (a0 : Nat) (a1 : Nat) : Option (ja_H) := (jf_L h a0 7 1 (fun v101 => (if v101 < (0 : Int64) then (r_Nu_leaveOver_40 h a0) else (jf_L h a1 7 1 (fun v102 => (if v102 ≤ (0 : Int64) then (r_Nu_leaveOver_40 h a0) else (jf_L h a0 7 2 (fun v103 => (jf_L h a1 7 2 (fun v104 => (jc_L (r_Mt_min_J h v103 (v104 - (1 : Int64))) (fun v106 h105 => (jk h105 a0 7 (jc_V (r_Va_become h105 a0 (1 : Int32) (0 : Int64) v106) (fun h107 => (r_Nu_leaveOver_44 h107))))))))))))))))
theorem e_Nu_leaveOver {h : ja_H} {a0 : Nat} {a1 : Nat} : ja_D ja_gV M_Nu_leaveOver 0 [some (.ref a0), some (.ref a1)] [] h (r_Nu_leaveOver h a0 a1) := by
  unfold r_Nu_leaveOver
  refine jd_aload_n i_Nu_leaveOver_0 rfl ?_
  refine jd_getL F_Nu_30 i_Nu_leaveOver_1 (fun v101 => ?_)
  refine jd_lconst 0 i_Nu_leaveOver_4 (by decide) ?_
  refine jd_lcmp_lt 40 i_Nu_leaveOver_5 i_Nu_leaveOver_6 (by decide) ?_ ?_
  · exact jd_less (t_Nu_leaveOver_40) ⟨rfl, trivial⟩
  · refine jd_aload_n i_Nu_leaveOver_9 rfl ?_
    refine jd_getL F_Nu_30 i_Nu_leaveOver_10 (fun v102 => ?_)
    refine jd_lconst 0 i_Nu_leaveOver_13 (by decide) ?_
    refine jd_lcmp_le 40 i_Nu_leaveOver_14 i_Nu_leaveOver_15 (by decide) ?_ ?_
    · exact jd_less (t_Nu_leaveOver_40) ⟨rfl, trivial⟩
    · refine jd_aload_n i_Nu_leaveOver_18 rfl ?_
      refine jd_iconst 1 i_Nu_leaveOver_19 (by decide) ?_
      refine jd_lconst 0 i_Nu_leaveOver_20 (by decide) ?_
      refine jd_aload_n i_Nu_leaveOver_21 rfl ?_
      refine jd_getL F_Nu_95 i_Nu_leaveOver_22 (fun v103 => ?_)
      refine jd_aload_n i_Nu_leaveOver_25 rfl ?_
      refine jd_getL F_Nu_95 i_Nu_leaveOver_26 (fun v104 => ?_)
      refine jd_lconst 1 i_Nu_leaveOver_29 (by decide) ?_
      refine jd_lsub i_Nu_leaveOver_30 ?_
      refine jd_callSL G_Nu_107 sc_Mt_min_J (fun _ e => c_Mt_min_J e) rfl ⟨by decide, by decide⟩ rfl (Nat.le_of_ble_eq_true rfl) i_Nu_leaveOver_31 (fun v106 h105 => ?_)
      refine jd_callVV G_Nu_40 in_Va_become se_Va_become rfl (fun _ e => c_Va_become e) rfl ⟨by decide, by decide⟩ rfl (Nat.le_of_ble_eq_true rfl) i_Nu_leaveOver_34 (fun h107 => ?_)
      refine jd_goto 44 i_Nu_leaveOver_37 (by decide) ?_
      exact jd_less (t_Nu_leaveOver_44) trivial
theorem c_Nu_leaveOver {h : ja_H} {a0 : Nat} {a1 : Nat} {o : ja_H} (e : r_Nu_leaveOver h a0 a1 = some o) : ja_M (1, 25) y_Nu_leaveOver b_Nu_leaveOver 2 (none) [.ref a0, .ref a1] h [] o := jc_of (g := ja_gV) false _ e e_Nu_leaveOver rfl (by decide +kernel) (fun q => nomatch q) (Nat.le_of_ble_eq_true rfl) (fun _ q => nomatch q) (Nat.le_of_ble_eq_true rfl)
noncomputable def r_Nu_productFits_47 (h : ja_H) (z0 : Int32) : Option (Int32 × ja_H) := (jb z0 (some (z0, h)))
theorem t_Nu_productFits_47 {h : ja_H} {z0 : Int32} : ja_D ja_gI M_Nu_productFits 47 [none, none, none, none] [.int z0] h (r_Nu_productFits_47 h z0) := by
  unfold r_Nu_productFits_47
  exact jd_zreturn i_Nu_productFits_47 rfl
noncomputable def r_Nu_productFits (h : ja_H) (a0 : Int64) (a2 : Int64) : Option (Int32 × ja_H) := (if a0 = (0 : Int64) then (jb (1 : Int32) (some ((1 : Int32), h))) else (if a0 = (-1 : Int64) then (if a2 = (-9223372036854775808 : Int64) then (r_Nu_productFits_47 h (0 : Int32)) else (r_Nu_productFits_47 h (1 : Int32))) else (jz_L a0 (if ((a0 * a2) / a0) = a2 then (r_Nu_productFits_47 h (1 : Int32)) else (r_Nu_productFits_47 h (0 : Int32))))))
theorem e_Nu_productFits {h : ja_H} {a0 : Int64} {a2 : Int64} : ja_D ja_gI M_Nu_productFits 0 [some (.long a0), none, some (.long a2), none] [] h (r_Nu_productFits h a0 a2) := by
  unfold r_Nu_productFits
  refine jd_lload_n i_Nu_productFits_0 rfl ?_
  refine jd_lconst 0 i_Nu_productFits_1 (by decide) ?_
  refine jd_lcmp_ne 8 i_Nu_productFits_2 i_Nu_productFits_3 (by decide) ?_ ?_
  · refine jd_lload_n i_Nu_productFits_8 rfl ?_
    refine jd_ldc2 i_Nu_productFits_9 K_Nu_123 ?_
    refine jd_lcmp_ne 32 i_Nu_productFits_12 i_Nu_productFits_13 (by decide) ?_ ?_
    · refine jd_lload_n i_Nu_productFits_32 rfl ?_
      refine jd_lload_n i_Nu_productFits_33 rfl ?_
      refine jd_lmul i_Nu_productFits_34 ?_
      refine jd_lload_n i_Nu_productFits_35 rfl ?_
      refine jd_ldiv i_Nu_productFits_36 ?_
      refine jd_lload_n i_Nu_productFits_37 rfl ?_
      refine jd_lcmp_ne 46 i_Nu_productFits_38 i_Nu_productFits_39 (by decide) ?_ ?_
      · refine jd_iconst 0 i_Nu_productFits_46 (by decide) ?_
        exact jd_less (t_Nu_productFits_47) trivial
      · refine jd_iconst 1 i_Nu_productFits_42 (by decide) ?_
        refine jd_goto 47 i_Nu_productFits_43 (by decide) ?_
        exact jd_less (t_Nu_productFits_47) trivial
    · refine jd_lload_n i_Nu_productFits_16 rfl ?_
      refine jd_ldc2 i_Nu_productFits_17 K_Nu_118 ?_
      refine jd_lcmp_eq 28 i_Nu_productFits_20 i_Nu_productFits_21 (by decide) ?_ ?_
      · refine jd_iconst 0 i_Nu_productFits_28 (by decide) ?_
        refine jd_goto 47 i_Nu_productFits_29 (by decide) ?_
        exact jd_less (t_Nu_productFits_47) trivial
      · refine jd_iconst 1 i_Nu_productFits_24 (by decide) ?_
        refine jd_goto 47 i_Nu_productFits_25 (by decide) ?_
        exact jd_less (t_Nu_productFits_47) trivial
  · refine jd_iconst 1 i_Nu_productFits_6 (by decide) ?_
    exact jd_zreturn i_Nu_productFits_7 rfl
theorem c_Nu_productFits {h : ja_H} {a0 : Int64} {a2 : Int64} {o : Int32 × ja_H} (e : r_Nu_productFits h a0 a2 = some o) : ja_M (0, 0) y_Nu_productFits b_Nu_productFits 4 (some .boolean) [.long a0, .long a2] h [.int o.1] o.2 := jc_of (g := ja_gI) false _ e e_Nu_productFits rfl (by decide +kernel) (fun q => nomatch q) (Nat.le_of_ble_eq_true rfl) (fun _ q => nomatch q) (Nat.le_of_ble_eq_true rfl)
noncomputable def r_Nu_multiply_56 (h : ja_H) (y0 : Nat) : Option (ja_H) := (jk h y0 7 (jc_V (r_Va_becomeAny h y0) (fun h1 => (some h1))))
theorem t_Nu_multiply_56 {h : ja_H} {y0 : Nat} : ja_D ja_gV M_Nu_multiply 56 [some (.ref y0), none, none, none, none, none, none, none, none, none] [] h (r_Nu_multiply_56 h y0) := by
  unfold r_Nu_multiply_56
  refine jd_aload_n i_Nu_multiply_56 rfl ?_
  refine jd_callVV G_Nu_98 in_Va_becomeAny se_Va_becomeAny rfl (fun _ e => c_Va_becomeAny e) rfl ⟨by decide, by decide⟩ rfl (Nat.le_of_ble_eq_true rfl) i_Nu_multiply_57 (fun h1 => ?_)
  exact jd_return i_Nu_multiply_60 rfl
noncomputable def r_Nu_multiply (h : ja_H) (a0 : Nat) (a1 : Nat) : Option (ja_H) := (jf_L h a0 7 1 (fun v101 => (jf_L h a1 7 1 (fun v102 => (jc_I (r_Nu_productFits h v101 v102) (fun v104 h103 => (if v104 = (0 : Int32) then (r_Nu_multiply_56 h103 a0) else (jf_L h103 a0 7 1 (fun v105 => (jf_L h103 a1 7 2 (fun v106 => (jc_I (r_Nu_productFits h103 v105 v106) (fun v108 h107 => (if v108 = (0 : Int32) then (r_Nu_multiply_56 h107 a0) else (jf_L h107 a0 7 2 (fun v109 => (jf_L h107 a1 7 1 (fun v110 => (jc_I (r_Nu_productFits h107 v109 v110) (fun v112 h111 => (if v112 = (0 : Int32) then (r_Nu_multiply_56 h111 a0) else (jf_L h111 a0 7 2 (fun v113 => (jf_L h111 a1 7 2 (fun v114 => (jc_I (r_Nu_productFits h111 v113 v114) (fun v116 h115 => (if v116 = (0 : Int32) then (r_Nu_multiply_56 h115 a0) else (jf_L h115 a0 7 1 (fun v117 => (jf_L h115 a1 7 1 (fun v118 => (jl ((v117 * v118) : Int64) (fun (x119 : Int64) => (jf_L h115 a0 7 1 (fun v120 => (jf_L h115 a1 7 2 (fun v121 => (jl ((v120 * v121) : Int64) (fun (x122 : Int64) => (jf_L h115 a0 7 2 (fun v123 => (jf_L h115 a1 7 1 (fun v124 => (jl ((v123 * v124) : Int64) (fun (x125 : Int64) => (jf_L h115 a0 7 2 (fun v126 => (jf_L h115 a1 7 2 (fun v127 => (jl ((v126 * v127) : Int64) (fun (x128 : Int64) => (jc_L (r_Mt_min_J h115 x119 x122) (fun v130 h129 => (jc_L (r_Mt_min_J h129 x125 x128) (fun v132 h131 => (jc_L (r_Mt_min_J h131 v130 v132) (fun v134 h133 => (jc_L (r_Mt_max_J h133 x119 x122) (fun v136 h135 => (jc_L (r_Mt_max_J h135 x125 x128) (fun v138 h137 => (jc_L (r_Mt_max_J h137 v136 v138) (fun v140 h139 => (jk h139 a0 7 (jc_V (r_Va_become h139 a0 (1 : Int32) v134 v140) (fun h141 => (some h141))))))))))))))))))))))))))))))))))))))))))))))))))))))))))))))))))))
theorem e_Nu_multiply {h : ja_H} {a0 : Nat} {a1 : Nat} : ja_D ja_gV M_Nu_multiply 0 [some (.ref a0), some (.ref a1), none, none, none, none, none, none, none, none] [] h (r_Nu_multiply h a0 a1) := by
  unfold r_Nu_multiply
  refine jd_aload_n i_Nu_multiply_0 rfl ?_
  refine jd_getL F_Nu_30 i_Nu_multiply_1 (fun v101 => ?_)
  refine jd_aload_n i_Nu_multiply_4 rfl ?_
  refine jd_getL F_Nu_30 i_Nu_multiply_5 (fun v102 => ?_)
  refine jd_callSI G_Nu_104 sc_Nu_productFits (fun _ e => c_Nu_productFits e) rfl ⟨by decide, by decide⟩ rfl (Nat.le_of_ble_eq_true rfl) i_Nu_multiply_8 (fun v104 h103 => ?_)
  refine jd_if_eq 56 i_Nu_multiply_11 (by decide) ?_ ?_
  · exact jd_less (t_Nu_multiply_56) ⟨rfl, trivial⟩
  · refine jd_aload_n i_Nu_multiply_14 rfl ?_
    refine jd_getL F_Nu_30 i_Nu_multiply_15 (fun v105 => ?_)
    refine jd_aload_n i_Nu_multiply_18 rfl ?_
    refine jd_getL F_Nu_95 i_Nu_multiply_19 (fun v106 => ?_)
    refine jd_callSI G_Nu_104 sc_Nu_productFits (fun _ e => c_Nu_productFits e) rfl ⟨by decide, by decide⟩ rfl (Nat.le_of_ble_eq_true rfl) i_Nu_multiply_22 (fun v108 h107 => ?_)
    refine jd_if_eq 56 i_Nu_multiply_25 (by decide) ?_ ?_
    · exact jd_less (t_Nu_multiply_56) ⟨rfl, trivial⟩
    · refine jd_aload_n i_Nu_multiply_28 rfl ?_
      refine jd_getL F_Nu_95 i_Nu_multiply_29 (fun v109 => ?_)
      refine jd_aload_n i_Nu_multiply_32 rfl ?_
      refine jd_getL F_Nu_30 i_Nu_multiply_33 (fun v110 => ?_)
      refine jd_callSI G_Nu_104 sc_Nu_productFits (fun _ e => c_Nu_productFits e) rfl ⟨by decide, by decide⟩ rfl (Nat.le_of_ble_eq_true rfl) i_Nu_multiply_36 (fun v112 h111 => ?_)
      refine jd_if_eq 56 i_Nu_multiply_39 (by decide) ?_ ?_
      · exact jd_less (t_Nu_multiply_56) ⟨rfl, trivial⟩
      · refine jd_aload_n i_Nu_multiply_42 rfl ?_
        refine jd_getL F_Nu_95 i_Nu_multiply_43 (fun v113 => ?_)
        refine jd_aload_n i_Nu_multiply_46 rfl ?_
        refine jd_getL F_Nu_95 i_Nu_multiply_47 (fun v114 => ?_)
        refine jd_callSI G_Nu_104 sc_Nu_productFits (fun _ e => c_Nu_productFits e) rfl ⟨by decide, by decide⟩ rfl (Nat.le_of_ble_eq_true rfl) i_Nu_multiply_50 (fun v116 h115 => ?_)
        refine jd_if_ne 61 i_Nu_multiply_53 (by decide) ?_ ?_
        · refine jd_aload_n i_Nu_multiply_61 rfl ?_
          refine jd_getL F_Nu_30 i_Nu_multiply_62 (fun v117 => ?_)
          refine jd_aload_n i_Nu_multiply_65 rfl ?_
          refine jd_getL F_Nu_30 i_Nu_multiply_66 (fun v118 => ?_)
          refine jd_lmul i_Nu_multiply_69 ?_
          refine jd_lstore_n (fun x119 => [some (.ref a0), some (.ref a1), some (.long x119), none, none, none, none, none, none, none]) i_Nu_multiply_70 (by decide) rfl (fun _ => rfl) (fun x119 => ?_)
          refine jd_aload_n i_Nu_multiply_71 rfl ?_
          refine jd_getL F_Nu_30 i_Nu_multiply_72 (fun v120 => ?_)
          refine jd_aload_n i_Nu_multiply_75 rfl ?_
          refine jd_getL F_Nu_95 i_Nu_multiply_76 (fun v121 => ?_)
          refine jd_lmul i_Nu_multiply_79 ?_
          refine jd_lstore (fun x122 => [some (.ref a0), some (.ref a1), some (.long x119), none, some (.long x122), none, none, none, none, none]) i_Nu_multiply_80 (by decide) rfl (fun _ => rfl) (fun x122 => ?_)
          refine jd_aload_n i_Nu_multiply_82 rfl ?_
          refine jd_getL F_Nu_95 i_Nu_multiply_83 (fun v123 => ?_)
          refine jd_aload_n i_Nu_multiply_86 rfl ?_
          refine jd_getL F_Nu_30 i_Nu_multiply_87 (fun v124 => ?_)
          refine jd_lmul i_Nu_multiply_90 ?_
          refine jd_lstore (fun x125 => [some (.ref a0), some (.ref a1), some (.long x119), none, some (.long x122), none, some (.long x125), none, none, none]) i_Nu_multiply_91 (by decide) rfl (fun _ => rfl) (fun x125 => ?_)
          refine jd_aload_n i_Nu_multiply_93 rfl ?_
          refine jd_getL F_Nu_95 i_Nu_multiply_94 (fun v126 => ?_)
          refine jd_aload_n i_Nu_multiply_97 rfl ?_
          refine jd_getL F_Nu_95 i_Nu_multiply_98 (fun v127 => ?_)
          refine jd_lmul i_Nu_multiply_101 ?_
          refine jd_lstore (fun x128 => [some (.ref a0), some (.ref a1), some (.long x119), none, some (.long x122), none, some (.long x125), none, some (.long x128), none]) i_Nu_multiply_102 (by decide) rfl (fun _ => rfl) (fun x128 => ?_)
          refine jd_aload_n i_Nu_multiply_104 rfl ?_
          refine jd_iconst 1 i_Nu_multiply_105 (by decide) ?_
          refine jd_lload_n i_Nu_multiply_106 rfl ?_
          refine jd_lload i_Nu_multiply_107 rfl ?_
          refine jd_callSL G_Nu_107 sc_Mt_min_J (fun _ e => c_Mt_min_J e) rfl ⟨by decide, by decide⟩ rfl (Nat.le_of_ble_eq_true rfl) i_Nu_multiply_109 (fun v130 h129 => ?_)
          refine jd_lload i_Nu_multiply_112 rfl ?_
          refine jd_lload i_Nu_multiply_114 rfl ?_
          refine jd_callSL G_Nu_107 sc_Mt_min_J (fun _ e => c_Mt_min_J e) rfl ⟨by decide, by decide⟩ rfl (Nat.le_of_ble_eq_true rfl) i_Nu_multiply_116 (fun v132 h131 => ?_)
          refine jd_callSL G_Nu_107 sc_Mt_min_J (fun _ e => c_Mt_min_J e) rfl ⟨by decide, by decide⟩ rfl (Nat.le_of_ble_eq_true rfl) i_Nu_multiply_119 (fun v134 h133 => ?_)
          refine jd_lload_n i_Nu_multiply_122 rfl ?_
          refine jd_lload i_Nu_multiply_123 rfl ?_
          refine jd_callSL G_Nu_113 sc_Mt_max_J (fun _ e => c_Mt_max_J e) rfl ⟨by decide, by decide⟩ rfl (Nat.le_of_ble_eq_true rfl) i_Nu_multiply_125 (fun v136 h135 => ?_)
          refine jd_lload i_Nu_multiply_128 rfl ?_
          refine jd_lload i_Nu_multiply_130 rfl ?_
          refine jd_callSL G_Nu_113 sc_Mt_max_J (fun _ e => c_Mt_max_J e) rfl ⟨by decide, by decide⟩ rfl (Nat.le_of_ble_eq_true rfl) i_Nu_multiply_132 (fun v138 h137 => ?_)
          refine jd_callSL G_Nu_113 sc_Mt_max_J (fun _ e => c_Mt_max_J e) rfl ⟨by decide, by decide⟩ rfl (Nat.le_of_ble_eq_true rfl) i_Nu_multiply_135 (fun v140 h139 => ?_)
          refine jd_callVV G_Nu_40 in_Va_become se_Va_become rfl (fun _ e => c_Va_become e) rfl ⟨by decide, by decide⟩ rfl (Nat.le_of_ble_eq_true rfl) i_Nu_multiply_138 (fun h141 => ?_)
          exact jd_return i_Nu_multiply_141 rfl
        · exact jd_less (t_Nu_multiply_56) ⟨rfl, trivial⟩
theorem c_Nu_multiply {h : ja_H} {a0 : Nat} {a1 : Nat} {o : ja_H} (e : r_Nu_multiply h a0 a1 = some o) : ja_M (1, 25) y_Nu_multiply b_Nu_multiply 10 (none) [.ref a0, .ref a1] h [] o := jc_of (g := ja_gV) false _ e e_Nu_multiply rfl (by decide +kernel) (fun q => nomatch q) (Nat.le_of_ble_eq_true rfl) (fun _ q => nomatch q) (Nat.le_of_ble_eq_true rfl)
noncomputable def r_Nu_negate_33 (h : ja_H) : Option (ja_H) := (some h)
theorem t_Nu_negate_33 {h : ja_H} : ja_D ja_gV M_Nu_negate 33 [none] [] h (r_Nu_negate_33 h) := by
  unfold r_Nu_negate_33
  exact jd_return i_Nu_negate_33 rfl
noncomputable def r_Nu_negate (h : ja_H) (a0 : Nat) : Option (ja_H) := (jf_L h a0 7 1 (fun v101 => (if v101 = (-9223372036854775808 : Int64) then (jk h a0 7 (jc_V (r_Va_becomeAny h a0) (fun h105 => (r_Nu_negate_33 h105)))) else (jf_L h a0 7 2 (fun v102 => (jf_L h a0 7 1 (fun v103 => (jk h a0 7 (jc_V (r_Va_become h a0 (1 : Int32) (-v102) (-v103)) (fun h104 => (r_Nu_negate_33 h104)))))))))))
theorem e_Nu_negate {h : ja_H} {a0 : Nat} : ja_D ja_gV M_Nu_negate 0 [some (.ref a0)] [] h (r_Nu_negate h a0) := by
  unfold r_Nu_negate
  refine jd_aload_n i_Nu_negate_0 rfl ?_
  refine jd_getL F_Nu_30 i_Nu_negate_1 (fun v101 => ?_)
  refine jd_ldc2 i_Nu_negate_4 K_Nu_118 ?_
  refine jd_lcmp_ne 18 i_Nu_negate_7 i_Nu_negate_8 (by decide) ?_ ?_
  · refine jd_aload_n i_Nu_negate_18 rfl ?_
    refine jd_iconst 1 i_Nu_negate_19 (by decide) ?_
    refine jd_aload_n i_Nu_negate_20 rfl ?_
    refine jd_getL F_Nu_95 i_Nu_negate_21 (fun v102 => ?_)
    refine jd_lneg i_Nu_negate_24 ?_
    refine jd_aload_n i_Nu_negate_25 rfl ?_
    refine jd_getL F_Nu_30 i_Nu_negate_26 (fun v103 => ?_)
    refine jd_lneg i_Nu_negate_29 ?_
    refine jd_callVV G_Nu_40 in_Va_become se_Va_become rfl (fun _ e => c_Va_become e) rfl ⟨by decide, by decide⟩ rfl (Nat.le_of_ble_eq_true rfl) i_Nu_negate_30 (fun h104 => ?_)
    exact jd_less (t_Nu_negate_33) trivial
  · refine jd_aload_n i_Nu_negate_11 rfl ?_
    refine jd_callVV G_Nu_98 in_Va_becomeAny se_Va_becomeAny rfl (fun _ e => c_Va_becomeAny e) rfl ⟨by decide, by decide⟩ rfl (Nat.le_of_ble_eq_true rfl) i_Nu_negate_12 (fun h105 => ?_)
    refine jd_goto 33 i_Nu_negate_15 (by decide) ?_
    exact jd_less (t_Nu_negate_33) trivial
theorem c_Nu_negate {h : ja_H} {a0 : Nat} {o : ja_H} (e : r_Nu_negate h a0 = some o) : ja_M (1, 25) y_Nu_negate b_Nu_negate 1 (none) [.ref a0] h [] o := jc_of (g := ja_gV) false _ e e_Nu_negate rfl (by decide +kernel) (fun q => nomatch q) (Nat.le_of_ble_eq_true rfl) (fun _ q => nomatch q) (Nat.le_of_ble_eq_true rfl)
noncomputable def r_Nu_or_69 (h : ja_H) (y0 : Nat) (y4 : Int64) : Option (ja_H) := (jk h y0 7 (jc_V (r_Va_become h y0 (1 : Int32) (0 : Int64) y4) (fun h1 => (some h1))))
theorem t_Nu_or_69 {h : ja_H} {y0 : Nat} {y4 : Int64} : ja_D ja_gV M_Nu_or 69 [some (.ref y0), none, none, none, some (.long y4), none, none] [] h (r_Nu_or_69 h y0 y4) := by
  unfold r_Nu_or_69
  refine jd_aload_n i_Nu_or_69 rfl ?_
  refine jd_iconst 1 i_Nu_or_70 (by decide) ?_
  refine jd_lconst 0 i_Nu_or_71 (by decide) ?_
  refine jd_lload i_Nu_or_72 rfl ?_
  refine jd_callVV G_Nu_40 in_Va_become se_Va_become rfl (fun _ e => c_Va_become e) rfl ⟨by decide, by decide⟩ rfl (Nat.le_of_ble_eq_true rfl) i_Nu_or_74 (fun h1 => ?_)
  exact jd_return i_Nu_or_77 rfl
noncomputable def q_Nu_or_41 (C41 : ja_H → Nat → Int64 → Int64 → Int32 → Option (ja_H)) (h : ja_H) (y0 : Nat) (y2 : Int64) (y4 : Int64) (y6 : Int32) : Option (ja_H) := (if (63 : Int32) ≤ y6 then (r_Nu_or_69 h y0 y4) else (if y2 ≤ y4 then (r_Nu_or_69 h y0 y4) else (jl (((y4 <<< (Int32.toInt64 (1 : Int32) &&& 63)) ||| (1 : Int64)) : Int64) (fun (x1 : Int64) => (jl (y6 + 1 : Int32) (fun (x2 : Int32) => (C41 h y0 y2 x1 x2)))))))
theorem t_Nu_or_41 {C41 : ja_H → Nat → Int64 → Int64 → Int32 → Option (ja_H)} (k41 : ∀ (h : ja_H) (y0 : Nat) (y2 : Int64) (y4 : Int64) (y6 : Int32), ja_D ja_gV M_Nu_or 41 [some (.ref y0), none, some (.long y2), none, some (.long y4), none, some (.int y6)] [] h (C41 h y0 y2 y4 y6)) {h : ja_H} {y0 : Nat} {y2 : Int64} {y4 : Int64} {y6 : Int32} : ja_D ja_gV M_Nu_or 41 [some (.ref y0), none, some (.long y2), none, some (.long y4), none, some (.int y6)] [] h (q_Nu_or_41 C41 h y0 y2 y4 y6) := by
  unfold q_Nu_or_41
  refine jd_iload i_Nu_or_41 rfl ?_
  refine jd_bipush 63 i_Nu_or_43 (by decide) ?_
  refine jd_icmp_ge 69 i_Nu_or_45 (by decide) ?_ ?_
  · exact jd_less (t_Nu_or_69) ⟨rfl, rfl, trivial⟩
  · refine jd_lload i_Nu_or_48 rfl ?_
    refine jd_lload_n i_Nu_or_50 rfl ?_
    refine jd_lcmp_ge 69 i_Nu_or_51 i_Nu_or_52 (by decide) ?_ ?_
    · exact jd_less (t_Nu_or_69) ⟨rfl, rfl, trivial⟩
    · refine jd_lload i_Nu_or_55 rfl ?_
      refine jd_iconst 1 i_Nu_or_57 (by decide) ?_
      refine jd_lshl i_Nu_or_58 ?_
      refine jd_lconst 1 i_Nu_or_59 (by decide) ?_
      refine jd_lor i_Nu_or_60 ?_
      refine jd_lstore (fun x1 => [some (.ref y0), none, some (.long y2), none, some (.long x1), none, some (.int y6)]) i_Nu_or_61 (by decide) rfl (fun _ => rfl) (fun x1 => ?_)
      refine jd_iinc (fun x2 => [some (.ref y0), none, some (.long y2), none, some (.long x1), none, some (.int x2)]) i_Nu_or_63 rfl rfl (by decide) rfl (fun _ => rfl) (fun x2 => ?_)
      refine jd_goto 41 i_Nu_or_66 (by decide) ?_
      exact jd_less (k41 _ _ _ _ _) ⟨rfl, rfl, rfl, rfl, trivial⟩
noncomputable def r_Nu_or_41 : Nat → ja_H → Nat → Int64 → Int64 → Int32 → Option (ja_H) := ja_lo (q_Nu_or_41) (fun _ _ _ _ _ => none)
theorem s_Nu_or_41 : ∀ (n : Nat) (h : ja_H) (y0 : Nat) (y2 : Int64) (y4 : Int64) (y6 : Int32), ja_D ja_gV M_Nu_or 41 [some (.ref y0), none, some (.long y2), none, some (.long y4), none, some (.int y6)] [] h (r_Nu_or_41 n h y0 y2 y4 y6) := by
  intro n
  induction n with
  | zero => intro h y0 y2 y4 y6 o e; cases e
  | succ n ih => intro h y0 y2 y4 y6; exact t_Nu_or_41 ih
noncomputable def r_Nu_or_18 (h : ja_H) (y0 : Nat) : Option (ja_H) := (jk h y0 7 (jc_V (r_Va_becomeAny h y0) (fun h1 => (some h1))))
theorem t_Nu_or_18 {h : ja_H} {y0 : Nat} : ja_D ja_gV M_Nu_or 18 [some (.ref y0), none, none, none, none, none, none] [] h (r_Nu_or_18 h y0) := by
  unfold r_Nu_or_18
  refine jd_aload_n i_Nu_or_18 rfl ?_
  refine jd_callVV G_Nu_98 in_Va_becomeAny se_Va_becomeAny rfl (fun _ e => c_Va_becomeAny e) rfl ⟨by decide, by decide⟩ rfl (Nat.le_of_ble_eq_true rfl) i_Nu_or_19 (fun h1 => ?_)
  exact jd_return i_Nu_or_22 rfl
noncomputable def r_Nu_or (h : ja_H) (a0 : Nat) (a1 : Nat) : Option (ja_H) := (jf_L h a0 7 1 (fun v101 => (if v101 < (0 : Int64) then (r_Nu_or_18 h a0) else (jf_L h a1 7 1 (fun v102 => (if (0 : Int64) ≤ v102 then (jf_L h a0 7 2 (fun v103 => (jf_L h a1 7 2 (fun v104 => (jc_L (r_Mt_max_J h v103 v104) (fun v106 h105 => (jl (v106 : Int64) (fun (x107 : Int64) => (jl ((0 : Int64) : Int64) (fun (x108 : Int64) => (jl ((0 : Int32) : Int32) (fun (x109 : Int32) => (r_Nu_or_41 ja_fu h105 a0 x107 x108 x109))))))))))))) else (r_Nu_or_18 h a0)))))))
theorem e_Nu_or {h : ja_H} {a0 : Nat} {a1 : Nat} : ja_D ja_gV M_Nu_or 0 [some (.ref a0), some (.ref a1), none, none, none, none, none] [] h (r_Nu_or h a0 a1) := by
  unfold r_Nu_or
  refine jd_aload_n i_Nu_or_0 rfl ?_
  refine jd_getL F_Nu_30 i_Nu_or_1 (fun v101 => ?_)
  refine jd_lconst 0 i_Nu_or_4 (by decide) ?_
  refine jd_lcmp_lt 18 i_Nu_or_5 i_Nu_or_6 (by decide) ?_ ?_
  · exact jd_less (t_Nu_or_18) ⟨rfl, trivial⟩
  · refine jd_aload_n i_Nu_or_9 rfl ?_
    refine jd_getL F_Nu_30 i_Nu_or_10 (fun v102 => ?_)
    refine jd_lconst 0 i_Nu_or_13 (by decide) ?_
    refine jd_lcmp_ge 23 i_Nu_or_14 i_Nu_or_15 (by decide) ?_ ?_
    · refine jd_aload_n i_Nu_or_23 rfl ?_
      refine jd_getL F_Nu_95 i_Nu_or_24 (fun v103 => ?_)
      refine jd_aload_n i_Nu_or_27 rfl ?_
      refine jd_getL F_Nu_95 i_Nu_or_28 (fun v104 => ?_)
      refine jd_callSL G_Nu_113 sc_Mt_max_J (fun _ e => c_Mt_max_J e) rfl ⟨by decide, by decide⟩ rfl (Nat.le_of_ble_eq_true rfl) i_Nu_or_31 (fun v106 h105 => ?_)
      refine jd_lstore_n (fun x107 => [some (.ref a0), some (.ref a1), some (.long x107), none, none, none, none]) i_Nu_or_34 (by decide) rfl (fun _ => rfl) (fun x107 => ?_)
      refine jd_lconst 0 i_Nu_or_35 (by decide) ?_
      refine jd_lstore (fun x108 => [some (.ref a0), some (.ref a1), some (.long x107), none, some (.long x108), none, none]) i_Nu_or_36 (by decide) rfl (fun _ => rfl) (fun x108 => ?_)
      refine jd_iconst 0 i_Nu_or_38 (by decide) ?_
      refine jd_istore (fun x109 => [some (.ref a0), some (.ref a1), some (.long x107), none, some (.long x108), none, some (.int x109)]) i_Nu_or_39 (by decide) rfl (fun _ => rfl) (fun x109 => ?_)
      exact jd_less (s_Nu_or_41 ja_fu _ _ _ _ _) ⟨rfl, rfl, rfl, rfl, trivial⟩
    · exact jd_less (t_Nu_or_18) ⟨rfl, trivial⟩
theorem c_Nu_or {h : ja_H} {a0 : Nat} {a1 : Nat} {o : ja_H} (e : r_Nu_or h a0 a1 = some o) : ja_M (1, 25) y_Nu_or b_Nu_or 7 (none) [.ref a0, .ref a1] h [] o := jc_of (g := ja_gV) false _ e e_Nu_or rfl (by decide +kernel) (fun q => nomatch q) (Nat.le_of_ble_eq_true rfl) (fun _ q => nomatch q) (Nat.le_of_ble_eq_true rfl)
noncomputable def r_Nu_shiftLeft_84 (h : ja_H) : Option (ja_H) := (some h)
theorem t_Nu_shiftLeft_84 {h : ja_H} : ja_D ja_gV M_Nu_shiftLeft 84 [none, none, none, none] [] h (r_Nu_shiftLeft_84 h) := by
  unfold r_Nu_shiftLeft_84
  exact jd_return i_Nu_shiftLeft_84 rfl
noncomputable def r_Nu_shiftLeft_80 (h : ja_H) (y1 : Nat) : Option (ja_H) := (jk h y1 7 (jc_V (r_Va_becomeAny h y1) (fun h1 => (r_Nu_shiftLeft_84 h1))))
theorem t_Nu_shiftLeft_80 {h : ja_H} {y1 : Nat} : ja_D ja_gV M_Nu_shiftLeft 80 [none, some (.ref y1), none, none] [] h (r_Nu_shiftLeft_80 h y1) := by
  unfold r_Nu_shiftLeft_80
  refine jd_aload_n i_Nu_shiftLeft_80 rfl ?_
  refine jd_callVV G_Nu_98 in_Va_becomeAny se_Va_becomeAny rfl (fun _ e => c_Va_becomeAny e) rfl ⟨by decide, by decide⟩ rfl (Nat.le_of_ble_eq_true rfl) i_Nu_shiftLeft_81 (fun h1 => ?_)
  exact jd_less (t_Nu_shiftLeft_84) trivial
noncomputable def r_Nu_shiftLeft_19 (h : ja_H) (y1 : Nat) (y2 : Nat) (z0 : Int32) (z1 : Int32) : Option (ja_H) := (jl ((z1 &&& z0) : Int32) (fun (x1 : Int32) => (jk h y2 7 (jc_I (r_Va_isOne h y2) (fun v3 h2 => (if v3 = (0 : Int32) then (r_Nu_shiftLeft_80 h2 y1) else (jf_L h2 y1 7 1 (fun v4 => (jf_L h2 y1 7 1 (fun v5 => (if ((v4 <<< (Int32.toInt64 x1 &&& 63)) >>> (Int32.toInt64 x1 &&& 63)) = v5 then (jf_L h2 y1 7 2 (fun v6 => (jf_L h2 y1 7 2 (fun v7 => (if ((v6 <<< (Int32.toInt64 x1 &&& 63)) >>> (Int32.toInt64 x1 &&& 63)) = v7 then (jf_L h2 y1 7 1 (fun v8 => (jf_L h2 y1 7 2 (fun v9 => (jk h2 y1 7 (jc_V (r_Va_become h2 y1 (1 : Int32) (v8 <<< (Int32.toInt64 x1 &&& 63)) (v9 <<< (Int32.toInt64 x1 &&& 63))) (fun h10 => (r_Nu_shiftLeft_84 h10)))))))) else (r_Nu_shiftLeft_80 h2 y1)))))) else (r_Nu_shiftLeft_80 h2 y1))))))))))))
theorem t_Nu_shiftLeft_19 {h : ja_H} {y1 : Nat} {y2 : Nat} {z0 : Int32} {z1 : Int32} : ja_D ja_gV M_Nu_shiftLeft 19 [none, some (.ref y1), some (.ref y2), none] [.int z0, .int z1] h (r_Nu_shiftLeft_19 h y1 y2 z0 z1) := by
  unfold r_Nu_shiftLeft_19
  refine jd_iand i_Nu_shiftLeft_19 ?_
  refine jd_istore_n (fun x1 => [none, some (.ref y1), some (.ref y2), some (.int x1)]) i_Nu_shiftLeft_20 (by decide) rfl (fun _ => rfl) (fun x1 => ?_)
  refine jd_aload_n i_Nu_shiftLeft_21 rfl ?_
  refine jd_callVI G_Nu_21 in_Va_isOne se_Va_isOne rfl (fun _ e => c_Va_isOne e) rfl ⟨by decide, by decide⟩ rfl (Nat.le_of_ble_eq_true rfl) i_Nu_shiftLeft_22 (fun v3 h2 => ?_)
  refine jd_if_eq 80 i_Nu_shiftLeft_25 (by decide) ?_ ?_
  · exact jd_less (t_Nu_shiftLeft_80) ⟨rfl, trivial⟩
  · refine jd_aload_n i_Nu_shiftLeft_28 rfl ?_
    refine jd_getL F_Nu_30 i_Nu_shiftLeft_29 (fun v4 => ?_)
    refine jd_iload_n i_Nu_shiftLeft_32 rfl ?_
    refine jd_lshl i_Nu_shiftLeft_33 ?_
    refine jd_iload_n i_Nu_shiftLeft_34 rfl ?_
    refine jd_lshr i_Nu_shiftLeft_35 ?_
    refine jd_aload_n i_Nu_shiftLeft_36 rfl ?_
    refine jd_getL F_Nu_30 i_Nu_shiftLeft_37 (fun v5 => ?_)
    refine jd_lcmp_ne 80 i_Nu_shiftLeft_40 i_Nu_shiftLeft_41 (by decide) ?_ ?_
    · exact jd_less (t_Nu_shiftLeft_80) ⟨rfl, trivial⟩
    · refine jd_aload_n i_Nu_shiftLeft_44 rfl ?_
      refine jd_getL F_Nu_95 i_Nu_shiftLeft_45 (fun v6 => ?_)
      refine jd_iload_n i_Nu_shiftLeft_48 rfl ?_
      refine jd_lshl i_Nu_shiftLeft_49 ?_
      refine jd_iload_n i_Nu_shiftLeft_50 rfl ?_
      refine jd_lshr i_Nu_shiftLeft_51 ?_
      refine jd_aload_n i_Nu_shiftLeft_52 rfl ?_
      refine jd_getL F_Nu_95 i_Nu_shiftLeft_53 (fun v7 => ?_)
      refine jd_lcmp_ne 80 i_Nu_shiftLeft_56 i_Nu_shiftLeft_57 (by decide) ?_ ?_
      · exact jd_less (t_Nu_shiftLeft_80) ⟨rfl, trivial⟩
      · refine jd_aload_n i_Nu_shiftLeft_60 rfl ?_
        refine jd_iconst 1 i_Nu_shiftLeft_61 (by decide) ?_
        refine jd_aload_n i_Nu_shiftLeft_62 rfl ?_
        refine jd_getL F_Nu_30 i_Nu_shiftLeft_63 (fun v8 => ?_)
        refine jd_iload_n i_Nu_shiftLeft_66 rfl ?_
        refine jd_lshl i_Nu_shiftLeft_67 ?_
        refine jd_aload_n i_Nu_shiftLeft_68 rfl ?_
        refine jd_getL F_Nu_95 i_Nu_shiftLeft_69 (fun v9 => ?_)
        refine jd_iload_n i_Nu_shiftLeft_72 rfl ?_
        refine jd_lshl i_Nu_shiftLeft_73 ?_
        refine jd_callVV G_Nu_40 in_Va_become se_Va_become rfl (fun _ e => c_Va_become e) rfl ⟨by decide, by decide⟩ rfl (Nat.le_of_ble_eq_true rfl) i_Nu_shiftLeft_74 (fun h10 => ?_)
        refine jd_goto 84 i_Nu_shiftLeft_77 (by decide) ?_
        exact jd_less (t_Nu_shiftLeft_84) trivial
noncomputable def r_Nu_shiftLeft (h : ja_H) (a0 : Nat) (a1 : Nat) (a2 : Nat) : Option (ja_H) := (jf_L h a2 7 1 (fun v101 => (jk h a0 4 (jc_I (r_Wo_isOf32 h a0) (fun v103 h102 => (if v103 = (0 : Int32) then (r_Nu_shiftLeft_19 h102 a1 a2 (63 : Int32) (Int64.toInt32 v101)) else (r_Nu_shiftLeft_19 h102 a1 a2 (31 : Int32) (Int64.toInt32 v101))))))))
theorem e_Nu_shiftLeft {h : ja_H} {a0 : Nat} {a1 : Nat} {a2 : Nat} : ja_D ja_gV M_Nu_shiftLeft 0 [some (.ref a0), some (.ref a1), some (.ref a2), none] [] h (r_Nu_shiftLeft h a0 a1 a2) := by
  unfold r_Nu_shiftLeft
  refine jd_aload_n i_Nu_shiftLeft_0 rfl ?_
  refine jd_getL F_Nu_30 i_Nu_shiftLeft_1 (fun v101 => ?_)
  refine jd_l2i i_Nu_shiftLeft_4 ?_
  refine jd_aload_n i_Nu_shiftLeft_5 rfl ?_
  refine jd_callVI G_Nu_9 in_Wo_isOf32 se_Wo_isOf32 rfl (fun _ e => c_Wo_isOf32 e) rfl ⟨by decide, by decide⟩ rfl (Nat.le_of_ble_eq_true rfl) i_Nu_shiftLeft_6 (fun v103 h102 => ?_)
  refine jd_if_eq 17 i_Nu_shiftLeft_9 (by decide) ?_ ?_
  · refine jd_bipush 63 i_Nu_shiftLeft_17 (by decide) ?_
    exact jd_less (t_Nu_shiftLeft_19) ⟨rfl, rfl, trivial⟩
  · refine jd_bipush 31 i_Nu_shiftLeft_12 (by decide) ?_
    refine jd_goto 19 i_Nu_shiftLeft_14 (by decide) ?_
    exact jd_less (t_Nu_shiftLeft_19) ⟨rfl, rfl, trivial⟩
theorem c_Nu_shiftLeft {h : ja_H} {a0 : Nat} {a1 : Nat} {a2 : Nat} {o : ja_H} (e : r_Nu_shiftLeft h a0 a1 a2 = some o) : ja_M (1, 25) y_Nu_shiftLeft b_Nu_shiftLeft 4 (none) [.ref a0, .ref a1, .ref a2] h [] o := jc_of (g := ja_gV) false _ e e_Nu_shiftLeft rfl (by decide +kernel) (fun q => nomatch q) (Nat.le_of_ble_eq_true rfl) (fun _ q => nomatch q) (Nat.le_of_ble_eq_true rfl)
noncomputable def r_Nu_shiftRight_108 (h : ja_H) : Option (ja_H) := (some h)
theorem t_Nu_shiftRight_108 {h : ja_H} : ja_D ja_gV M_Nu_shiftRight 108 [none, none, none, none, none] [] h (r_Nu_shiftRight_108 h) := by
  unfold r_Nu_shiftRight_108
  exact jd_return i_Nu_shiftRight_108 rfl
noncomputable def r_Nu_shiftRight_104 (h : ja_H) (y1 : Nat) : Option (ja_H) := (jk h y1 7 (jc_V (r_Va_becomeAny h y1) (fun h1 => (r_Nu_shiftRight_108 h1))))
theorem t_Nu_shiftRight_104 {h : ja_H} {y1 : Nat} : ja_D ja_gV M_Nu_shiftRight 104 [none, some (.ref y1), none, none, none] [] h (r_Nu_shiftRight_104 h y1) := by
  unfold r_Nu_shiftRight_104
  refine jd_aload_n i_Nu_shiftRight_104 rfl ?_
  refine jd_callVV G_Nu_98 in_Va_becomeAny se_Va_becomeAny rfl (fun _ e => c_Va_becomeAny e) rfl ⟨by decide, by decide⟩ rfl (Nat.le_of_ble_eq_true rfl) i_Nu_shiftRight_105 (fun h1 => ?_)
  exact jd_less (t_Nu_shiftRight_108) trivial
noncomputable def r_Nu_shiftRight_70 (h : ja_H) (y1 : Nat) (y2 : Nat) (y3 : Int32) (z0 : Int32) : Option (ja_H) := (jl (z0 : Int32) (fun (x1 : Int32) => (jk h y2 7 (jc_I (r_Va_isOne h y2) (fun v3 h2 => (if v3 = (0 : Int32) then (r_Nu_shiftRight_104 h2 y1) else (if x1 = (0 : Int32) then (r_Nu_shiftRight_104 h2 y1) else (jf_L h2 y1 7 1 (fun v4 => (jf_L h2 y1 7 2 (fun v5 => (jk h2 y1 7 (jc_V (r_Va_become h2 y1 (1 : Int32) (v4 >>> (Int32.toInt64 y3 &&& 63)) (v5 >>> (Int32.toInt64 y3 &&& 63))) (fun h6 => (r_Nu_shiftRight_108 h6)))))))))))))))
theorem t_Nu_shiftRight_70 {h : ja_H} {y1 : Nat} {y2 : Nat} {y3 : Int32} {z0 : Int32} : ja_D ja_gV M_Nu_shiftRight 70 [none, some (.ref y1), some (.ref y2), some (.int y3), none] [.int z0] h (r_Nu_shiftRight_70 h y1 y2 y3 z0) := by
  unfold r_Nu_shiftRight_70
  refine jd_istore (fun x1 => [none, some (.ref y1), some (.ref y2), some (.int y3), some (.int x1)]) i_Nu_shiftRight_70 (by decide) rfl (fun _ => rfl) (fun x1 => ?_)
  refine jd_aload_n i_Nu_shiftRight_72 rfl ?_
  refine jd_callVI G_Nu_21 in_Va_isOne se_Va_isOne rfl (fun _ e => c_Va_isOne e) rfl ⟨by decide, by decide⟩ rfl (Nat.le_of_ble_eq_true rfl) i_Nu_shiftRight_73 (fun v3 h2 => ?_)
  refine jd_if_eq 104 i_Nu_shiftRight_76 (by decide) ?_ ?_
  · exact jd_less (t_Nu_shiftRight_104) ⟨rfl, trivial⟩
  · refine jd_iload i_Nu_shiftRight_79 rfl ?_
    refine jd_if_eq 104 i_Nu_shiftRight_81 (by decide) ?_ ?_
    · exact jd_less (t_Nu_shiftRight_104) ⟨rfl, trivial⟩
    · refine jd_aload_n i_Nu_shiftRight_84 rfl ?_
      refine jd_iconst 1 i_Nu_shiftRight_85 (by decide) ?_
      refine jd_aload_n i_Nu_shiftRight_86 rfl ?_
      refine jd_getL F_Nu_30 i_Nu_shiftRight_87 (fun v4 => ?_)
      refine jd_iload_n i_Nu_shiftRight_90 rfl ?_
      refine jd_lshr i_Nu_shiftRight_91 ?_
      refine jd_aload_n i_Nu_shiftRight_92 rfl ?_
      refine jd_getL F_Nu_95 i_Nu_shiftRight_93 (fun v5 => ?_)
      refine jd_iload_n i_Nu_shiftRight_96 rfl ?_
      refine jd_lshr i_Nu_shiftRight_97 ?_
      refine jd_callVV G_Nu_40 in_Va_become se_Va_become rfl (fun _ e => c_Va_become e) rfl ⟨by decide, by decide⟩ rfl (Nat.le_of_ble_eq_true rfl) i_Nu_shiftRight_98 (fun h6 => ?_)
      refine jd_goto 108 i_Nu_shiftRight_101 (by decide) ?_
      exact jd_less (t_Nu_shiftRight_108) trivial
noncomputable def r_Nu_shiftRight_65 (h : ja_H) (y1 : Nat) (y2 : Nat) (y3 : Int32) : Option (ja_H) := (r_Nu_shiftRight_70 h y1 y2 y3 (1 : Int32))
theorem t_Nu_shiftRight_65 {h : ja_H} {y1 : Nat} {y2 : Nat} {y3 : Int32} : ja_D ja_gV M_Nu_shiftRight 65 [none, some (.ref y1), some (.ref y2), some (.int y3), none] [] h (r_Nu_shiftRight_65 h y1 y2 y3) := by
  unfold r_Nu_shiftRight_65
  refine jd_iconst 1 i_Nu_shiftRight_65 (by decide) ?_
  refine jd_goto 70 i_Nu_shiftRight_66 (by decide) ?_
  exact jd_less (t_Nu_shiftRight_70) ⟨rfl, rfl, rfl, trivial⟩
noncomputable def r_Nu_shiftRight_19 (h : ja_H) (y0 : Nat) (y1 : Nat) (y2 : Nat) (z0 : Int32) (z1 : Int32) : Option (ja_H) := (jl ((z1 &&& z0) : Int32) (fun (x1 : Int32) => (jf_I h y0 4 6 (fun v2 => (if v2 = (7 : Int32) then (jf_L h y1 7 1 (fun v6 => (if v6 < (0 : Int64) then (r_Nu_shiftRight_70 h y1 y2 x1 (0 : Int32)) else (r_Nu_shiftRight_70 h y1 y2 x1 (1 : Int32))))) else (jk h y0 4 (jc_I (r_Wo_isOf32 h y0) (fun v4 h3 => (if v4 = (0 : Int32) then (r_Nu_shiftRight_65 h3 y1 y2 x1) else (jf_L h3 y1 7 2 (fun v5 => (if (2147483648 : Int64) ≤ v5 then (r_Nu_shiftRight_70 h3 y1 y2 x1 (0 : Int32)) else (r_Nu_shiftRight_65 h3 y1 y2 x1)))))))))))))
theorem t_Nu_shiftRight_19 {h : ja_H} {y0 : Nat} {y1 : Nat} {y2 : Nat} {z0 : Int32} {z1 : Int32} : ja_D ja_gV M_Nu_shiftRight 19 [some (.ref y0), some (.ref y1), some (.ref y2), none, none] [.int z0, .int z1] h (r_Nu_shiftRight_19 h y0 y1 y2 z0 z1) := by
  unfold r_Nu_shiftRight_19
  refine jd_iand i_Nu_shiftRight_19 ?_
  refine jd_istore_n (fun x1 => [some (.ref y0), some (.ref y1), some (.ref y2), some (.int x1), none]) i_Nu_shiftRight_20 (by decide) rfl (fun _ => rfl) (fun x1 => ?_)
  refine jd_aload_n i_Nu_shiftRight_21 rfl ?_
  refine jd_getI F_Nu_54 i_Nu_shiftRight_22 (fun v2 => ?_)
  refine jd_bipush 7 i_Nu_shiftRight_25 (by decide) ?_
  refine jd_icmp_ne 47 i_Nu_shiftRight_27 (by decide) ?_ ?_
  · refine jd_aload_n i_Nu_shiftRight_47 rfl ?_
    refine jd_callVI G_Nu_9 in_Wo_isOf32 se_Wo_isOf32 rfl (fun _ e => c_Wo_isOf32 e) rfl ⟨by decide, by decide⟩ rfl (Nat.le_of_ble_eq_true rfl) i_Nu_shiftRight_48 (fun v4 h3 => ?_)
    refine jd_if_eq 65 i_Nu_shiftRight_51 (by decide) ?_ ?_
    · exact jd_less (t_Nu_shiftRight_65) ⟨rfl, rfl, rfl, trivial⟩
    · refine jd_aload_n i_Nu_shiftRight_54 rfl ?_
      refine jd_getL F_Nu_95 i_Nu_shiftRight_55 (fun v5 => ?_)
      refine jd_ldc2 i_Nu_shiftRight_58 K_Nu_116 ?_
      refine jd_lcmp_ge 69 i_Nu_shiftRight_61 i_Nu_shiftRight_62 (by decide) ?_ ?_
      · refine jd_iconst 0 i_Nu_shiftRight_69 (by decide) ?_
        exact jd_less (t_Nu_shiftRight_70) ⟨rfl, rfl, rfl, trivial⟩
      · exact jd_less (t_Nu_shiftRight_65) ⟨rfl, rfl, rfl, trivial⟩
  · refine jd_aload_n i_Nu_shiftRight_30 rfl ?_
    refine jd_getL F_Nu_30 i_Nu_shiftRight_31 (fun v6 => ?_)
    refine jd_lconst 0 i_Nu_shiftRight_34 (by decide) ?_
    refine jd_lcmp_lt 43 i_Nu_shiftRight_35 i_Nu_shiftRight_36 (by decide) ?_ ?_
    · refine jd_iconst 0 i_Nu_shiftRight_43 (by decide) ?_
      refine jd_goto 70 i_Nu_shiftRight_44 (by decide) ?_
      exact jd_less (t_Nu_shiftRight_70) ⟨rfl, rfl, rfl, trivial⟩
    · refine jd_iconst 1 i_Nu_shiftRight_39 (by decide) ?_
      refine jd_goto 70 i_Nu_shiftRight_40 (by decide) ?_
      exact jd_less (t_Nu_shiftRight_70) ⟨rfl, rfl, rfl, trivial⟩
noncomputable def r_Nu_shiftRight (h : ja_H) (a0 : Nat) (a1 : Nat) (a2 : Nat) : Option (ja_H) := (jf_L h a2 7 1 (fun v101 => (jk h a0 4 (jc_I (r_Wo_isOf32 h a0) (fun v103 h102 => (if v103 = (0 : Int32) then (r_Nu_shiftRight_19 h102 a0 a1 a2 (63 : Int32) (Int64.toInt32 v101)) else (r_Nu_shiftRight_19 h102 a0 a1 a2 (31 : Int32) (Int64.toInt32 v101))))))))
theorem e_Nu_shiftRight {h : ja_H} {a0 : Nat} {a1 : Nat} {a2 : Nat} : ja_D ja_gV M_Nu_shiftRight 0 [some (.ref a0), some (.ref a1), some (.ref a2), none, none] [] h (r_Nu_shiftRight h a0 a1 a2) := by
  unfold r_Nu_shiftRight
  refine jd_aload_n i_Nu_shiftRight_0 rfl ?_
  refine jd_getL F_Nu_30 i_Nu_shiftRight_1 (fun v101 => ?_)
  refine jd_l2i i_Nu_shiftRight_4 ?_
  refine jd_aload_n i_Nu_shiftRight_5 rfl ?_
  refine jd_callVI G_Nu_9 in_Wo_isOf32 se_Wo_isOf32 rfl (fun _ e => c_Wo_isOf32 e) rfl ⟨by decide, by decide⟩ rfl (Nat.le_of_ble_eq_true rfl) i_Nu_shiftRight_6 (fun v103 h102 => ?_)
  refine jd_if_eq 17 i_Nu_shiftRight_9 (by decide) ?_ ?_
  · refine jd_bipush 63 i_Nu_shiftRight_17 (by decide) ?_
    exact jd_less (t_Nu_shiftRight_19) ⟨rfl, rfl, rfl, trivial⟩
  · refine jd_bipush 31 i_Nu_shiftRight_12 (by decide) ?_
    refine jd_goto 19 i_Nu_shiftRight_14 (by decide) ?_
    exact jd_less (t_Nu_shiftRight_19) ⟨rfl, rfl, rfl, trivial⟩
theorem c_Nu_shiftRight {h : ja_H} {a0 : Nat} {a1 : Nat} {a2 : Nat} {o : ja_H} (e : r_Nu_shiftRight h a0 a1 a2 = some o) : ja_M (1, 25) y_Nu_shiftRight b_Nu_shiftRight 5 (none) [.ref a0, .ref a1, .ref a2] h [] o := jc_of (g := ja_gV) false _ e e_Nu_shiftRight rfl (by decide +kernel) (fun q => nomatch q) (Nat.le_of_ble_eq_true rfl) (fun _ q => nomatch q) (Nat.le_of_ble_eq_true rfl)
noncomputable def r_Nu_differenceFits_19 (h : ja_H) (z0 : Int32) : Option (Int32 × ja_H) := (jb z0 (some (z0, h)))
theorem t_Nu_differenceFits_19 {h : ja_H} {z0 : Int32} : ja_D ja_gI M_Nu_differenceFits 19 [none, none, none, none] [.int z0] h (r_Nu_differenceFits_19 h z0) := by
  unfold r_Nu_differenceFits_19
  exact jd_zreturn i_Nu_differenceFits_19 rfl
noncomputable def r_Nu_differenceFits (h : ja_H) (a0 : Int64) (a2 : Int64) : Option (Int32 × ja_H) := (if ((a0 ^^^ a2) &&& (a0 ^^^ (a0 - a2))) < (0 : Int64) then (r_Nu_differenceFits_19 h (0 : Int32)) else (r_Nu_differenceFits_19 h (1 : Int32)))
theorem e_Nu_differenceFits {h : ja_H} {a0 : Int64} {a2 : Int64} : ja_D ja_gI M_Nu_differenceFits 0 [some (.long a0), none, some (.long a2), none] [] h (r_Nu_differenceFits h a0 a2) := by
  unfold r_Nu_differenceFits
  refine jd_lload_n i_Nu_differenceFits_0 rfl ?_
  refine jd_lload_n i_Nu_differenceFits_1 rfl ?_
  refine jd_lxor i_Nu_differenceFits_2 ?_
  refine jd_lload_n i_Nu_differenceFits_3 rfl ?_
  refine jd_lload_n i_Nu_differenceFits_4 rfl ?_
  refine jd_lload_n i_Nu_differenceFits_5 rfl ?_
  refine jd_lsub i_Nu_differenceFits_6 ?_
  refine jd_lxor i_Nu_differenceFits_7 ?_
  refine jd_land i_Nu_differenceFits_8 ?_
  refine jd_lconst 0 i_Nu_differenceFits_9 (by decide) ?_
  refine jd_lcmp_lt 18 i_Nu_differenceFits_10 i_Nu_differenceFits_11 (by decide) ?_ ?_
  · refine jd_iconst 0 i_Nu_differenceFits_18 (by decide) ?_
    exact jd_less (t_Nu_differenceFits_19) trivial
  · refine jd_iconst 1 i_Nu_differenceFits_14 (by decide) ?_
    refine jd_goto 19 i_Nu_differenceFits_15 (by decide) ?_
    exact jd_less (t_Nu_differenceFits_19) trivial
theorem c_Nu_differenceFits {h : ja_H} {a0 : Int64} {a2 : Int64} {o : Int32 × ja_H} (e : r_Nu_differenceFits h a0 a2 = some o) : ja_M (0, 0) y_Nu_differenceFits b_Nu_differenceFits 4 (some .boolean) [.long a0, .long a2] h [.int o.1] o.2 := jc_of (g := ja_gI) false _ e e_Nu_differenceFits rfl (by decide +kernel) (fun q => nomatch q) (Nat.le_of_ble_eq_true rfl) (fun _ q => nomatch q) (Nat.le_of_ble_eq_true rfl)
noncomputable def r_Nu_subtract_58 (h : ja_H) : Option (ja_H) := (some h)
theorem t_Nu_subtract_58 {h : ja_H} : ja_D ja_gV M_Nu_subtract 58 [none, none] [] h (r_Nu_subtract_58 h) := by
  unfold r_Nu_subtract_58
  exact jd_return i_Nu_subtract_58 rfl
noncomputable def r_Nu_subtract_54 (h : ja_H) (y0 : Nat) : Option (ja_H) := (jk h y0 7 (jc_V (r_Va_becomeAny h y0) (fun h1 => (r_Nu_subtract_58 h1))))
theorem t_Nu_subtract_54 {h : ja_H} {y0 : Nat} : ja_D ja_gV M_Nu_subtract 54 [some (.ref y0), none] [] h (r_Nu_subtract_54 h y0) := by
  unfold r_Nu_subtract_54
  refine jd_aload_n i_Nu_subtract_54 rfl ?_
  refine jd_callVV G_Nu_98 in_Va_becomeAny se_Va_becomeAny rfl (fun _ e => c_Va_becomeAny e) rfl ⟨by decide, by decide⟩ rfl (Nat.le_of_ble_eq_true rfl) i_Nu_subtract_55 (fun h1 => ?_)
  exact jd_less (t_Nu_subtract_58) trivial
noncomputable def r_Nu_subtract (h : ja_H) (a0 : Nat) (a1 : Nat) : Option (ja_H) := (jf_L h a0 7 1 (fun v101 => (jf_L h a1 7 2 (fun v102 => (jc_I (r_Nu_differenceFits h v101 v102) (fun v104 h103 => (if v104 = (0 : Int32) then (r_Nu_subtract_54 h103 a0) else (jf_L h103 a0 7 2 (fun v105 => (jf_L h103 a1 7 1 (fun v106 => (jc_I (r_Nu_differenceFits h103 v105 v106) (fun v108 h107 => (if v108 = (0 : Int32) then (r_Nu_subtract_54 h107 a0) else (jf_L h107 a0 7 1 (fun v109 => (jf_L h107 a1 7 2 (fun v110 => (jf_L h107 a0 7 2 (fun v111 => (jf_L h107 a1 7 1 (fun v112 => (jk h107 a0 7 (jc_V (r_Va_become h107 a0 (1 : Int32) (v109 - v110) (v111 - v112)) (fun h113 => (r_Nu_subtract_58 h113))))))))))))))))))))))))))
theorem e_Nu_subtract {h : ja_H} {a0 : Nat} {a1 : Nat} : ja_D ja_gV M_Nu_subtract 0 [some (.ref a0), some (.ref a1)] [] h (r_Nu_subtract h a0 a1) := by
  unfold r_Nu_subtract
  refine jd_aload_n i_Nu_subtract_0 rfl ?_
  refine jd_getL F_Nu_30 i_Nu_subtract_1 (fun v101 => ?_)
  refine jd_aload_n i_Nu_subtract_4 rfl ?_
  refine jd_getL F_Nu_95 i_Nu_subtract_5 (fun v102 => ?_)
  refine jd_callSI G_Nu_101 sc_Nu_differenceFits (fun _ e => c_Nu_differenceFits e) rfl ⟨by decide, by decide⟩ rfl (Nat.le_of_ble_eq_true rfl) i_Nu_subtract_8 (fun v104 h103 => ?_)
  refine jd_if_eq 54 i_Nu_subtract_11 (by decide) ?_ ?_
  · exact jd_less (t_Nu_subtract_54) ⟨rfl, trivial⟩
  · refine jd_aload_n i_Nu_subtract_14 rfl ?_
    refine jd_getL F_Nu_95 i_Nu_subtract_15 (fun v105 => ?_)
    refine jd_aload_n i_Nu_subtract_18 rfl ?_
    refine jd_getL F_Nu_30 i_Nu_subtract_19 (fun v106 => ?_)
    refine jd_callSI G_Nu_101 sc_Nu_differenceFits (fun _ e => c_Nu_differenceFits e) rfl ⟨by decide, by decide⟩ rfl (Nat.le_of_ble_eq_true rfl) i_Nu_subtract_22 (fun v108 h107 => ?_)
    refine jd_if_eq 54 i_Nu_subtract_25 (by decide) ?_ ?_
    · exact jd_less (t_Nu_subtract_54) ⟨rfl, trivial⟩
    · refine jd_aload_n i_Nu_subtract_28 rfl ?_
      refine jd_iconst 1 i_Nu_subtract_29 (by decide) ?_
      refine jd_aload_n i_Nu_subtract_30 rfl ?_
      refine jd_getL F_Nu_30 i_Nu_subtract_31 (fun v109 => ?_)
      refine jd_aload_n i_Nu_subtract_34 rfl ?_
      refine jd_getL F_Nu_95 i_Nu_subtract_35 (fun v110 => ?_)
      refine jd_lsub i_Nu_subtract_38 ?_
      refine jd_aload_n i_Nu_subtract_39 rfl ?_
      refine jd_getL F_Nu_95 i_Nu_subtract_40 (fun v111 => ?_)
      refine jd_aload_n i_Nu_subtract_43 rfl ?_
      refine jd_getL F_Nu_30 i_Nu_subtract_44 (fun v112 => ?_)
      refine jd_lsub i_Nu_subtract_47 ?_
      refine jd_callVV G_Nu_40 in_Va_become se_Va_become rfl (fun _ e => c_Va_become e) rfl ⟨by decide, by decide⟩ rfl (Nat.le_of_ble_eq_true rfl) i_Nu_subtract_48 (fun h113 => ?_)
      refine jd_goto 58 i_Nu_subtract_51 (by decide) ?_
      exact jd_less (t_Nu_subtract_58) trivial
theorem c_Nu_subtract {h : ja_H} {a0 : Nat} {a1 : Nat} {o : ja_H} (e : r_Nu_subtract h a0 a1 = some o) : ja_M (1, 25) y_Nu_subtract b_Nu_subtract 2 (none) [.ref a0, .ref a1] h [] o := jc_of (g := ja_gV) false _ e e_Nu_subtract rfl (by decide +kernel) (fun q => nomatch q) (Nat.le_of_ble_eq_true rfl) (fun _ q => nomatch q) (Nat.le_of_ble_eq_true rfl)
noncomputable def r_Nu_turn_39 (h : ja_H) : Option (ja_H) := (some h)
theorem t_Nu_turn_39 {h : ja_H} : ja_D ja_gV M_Nu_turn 39 [none, none] [] h (r_Nu_turn_39 h) := by
  unfold r_Nu_turn_39
  exact jd_return i_Nu_turn_39 rfl
noncomputable def r_Nu_turn_18 (h : ja_H) (y0 : Nat) (y1 : Nat) : Option (ja_H) := (jf_I h y0 4 4 (fun v1 => (jk h y1 7 (jc_V (r_Va_become h y1 (1 : Int32) (0 : Int64) (((1 : Int64) <<< (Int32.toInt64 v1 &&& 63)) - (1 : Int64))) (fun h2 => (r_Nu_turn_39 h2))))))
theorem t_Nu_turn_18 {h : ja_H} {y0 : Nat} {y1 : Nat} : ja_D ja_gV M_Nu_turn 18 [some (.ref y0), some (.ref y1)] [] h (r_Nu_turn_18 h y0 y1) := by
  unfold r_Nu_turn_18
  refine jd_aload_n i_Nu_turn_18 rfl ?_
  refine jd_iconst 1 i_Nu_turn_19 (by decide) ?_
  refine jd_lconst 0 i_Nu_turn_20 (by decide) ?_
  refine jd_lconst 1 i_Nu_turn_21 (by decide) ?_
  refine jd_aload_n i_Nu_turn_22 rfl ?_
  refine jd_getI F_Nu_120 i_Nu_turn_23 (fun v1 => ?_)
  refine jd_lshl i_Nu_turn_26 ?_
  refine jd_lconst 1 i_Nu_turn_27 (by decide) ?_
  refine jd_lsub i_Nu_turn_28 ?_
  refine jd_callVV G_Nu_40 in_Va_become se_Va_become rfl (fun _ e => c_Va_become e) rfl ⟨by decide, by decide⟩ rfl (Nat.le_of_ble_eq_true rfl) i_Nu_turn_29 (fun h2 => ?_)
  refine jd_goto 39 i_Nu_turn_32 (by decide) ?_
  exact jd_less (t_Nu_turn_39) trivial
noncomputable def r_Nu_turn (h : ja_H) (a0 : Nat) (a1 : Nat) : Option (ja_H) := (jf_I h a0 4 4 (fun v101 => (if v101 = (16 : Int32) then (r_Nu_turn_18 h a0 a1) else (jf_I h a0 4 4 (fun v102 => (if v102 = (32 : Int32) then (r_Nu_turn_18 h a0 a1) else (jk h a1 7 (jc_V (r_Va_becomeAny h a1) (fun h103 => (r_Nu_turn_39 h103))))))))))
theorem e_Nu_turn {h : ja_H} {a0 : Nat} {a1 : Nat} : ja_D ja_gV M_Nu_turn 0 [some (.ref a0), some (.ref a1)] [] h (r_Nu_turn h a0 a1) := by
  unfold r_Nu_turn
  refine jd_aload_n i_Nu_turn_0 rfl ?_
  refine jd_getI F_Nu_120 i_Nu_turn_1 (fun v101 => ?_)
  refine jd_bipush 16 i_Nu_turn_4 (by decide) ?_
  refine jd_icmp_eq 18 i_Nu_turn_6 (by decide) ?_ ?_
  · exact jd_less (t_Nu_turn_18) ⟨rfl, rfl, trivial⟩
  · refine jd_aload_n i_Nu_turn_9 rfl ?_
    refine jd_getI F_Nu_120 i_Nu_turn_10 (fun v102 => ?_)
    refine jd_bipush 32 i_Nu_turn_13 (by decide) ?_
    refine jd_icmp_ne 35 i_Nu_turn_15 (by decide) ?_ ?_
    · refine jd_aload_n i_Nu_turn_35 rfl ?_
      refine jd_callVV G_Nu_98 in_Va_becomeAny se_Va_becomeAny rfl (fun _ e => c_Va_becomeAny e) rfl ⟨by decide, by decide⟩ rfl (Nat.le_of_ble_eq_true rfl) i_Nu_turn_36 (fun h103 => ?_)
      exact jd_less (t_Nu_turn_39) trivial
    · exact jd_less (t_Nu_turn_18) ⟨rfl, rfl, trivial⟩
theorem c_Nu_turn {h : ja_H} {a0 : Nat} {a1 : Nat} {o : ja_H} (e : r_Nu_turn h a0 a1 = some o) : ja_M (1, 25) y_Nu_turn b_Nu_turn 2 (none) [.ref a0, .ref a1] h [] o := jc_of (g := ja_gV) false _ e e_Nu_turn rfl (by decide +kernel) (fun q => nomatch q) (Nat.le_of_ble_eq_true rfl) (fun _ q => nomatch q) (Nat.le_of_ble_eq_true rfl)
noncomputable def r_Nu_reckonSpans_158 (h : ja_H) : Option (ja_H) := (some h)
theorem t_Nu_reckonSpans_158 {h : ja_H} : ja_D ja_gV M_Nu_reckonSpans 158 [none, none, none] [] h (r_Nu_reckonSpans_158 h) := by
  unfold r_Nu_reckonSpans_158
  exact jd_return i_Nu_reckonSpans_158 rfl
noncomputable def r_Nu_reckonSpans_153 (h : ja_H) (y0 : Nat) (y1 : Nat) : Option (ja_H) := (jc_V (r_Nu_turn h y0 y1) (fun h1 => (r_Nu_reckonSpans_158 h1)))
theorem t_Nu_reckonSpans_153 {h : ja_H} {y0 : Nat} {y1 : Nat} : ja_D ja_gV M_Nu_reckonSpans 153 [some (.ref y0), some (.ref y1), none] [] h (r_Nu_reckonSpans_153 h y0 y1) := by
  unfold r_Nu_reckonSpans_153
  refine jd_aload_n i_Nu_reckonSpans_153 rfl ?_
  refine jd_aload_n i_Nu_reckonSpans_154 rfl ?_
  refine jd_callSV G_Nu_88 sc_Nu_turn (fun _ e => c_Nu_turn e) rfl ⟨by decide, by decide⟩ rfl (Nat.le_of_ble_eq_true rfl) i_Nu_reckonSpans_155 (fun h1 => ?_)
  exact jd_less (t_Nu_reckonSpans_158) trivial
noncomputable def r_Nu_reckonSpans_137 (h : ja_H) (y0 : Nat) (y1 : Nat) (y2 : Nat) : Option (ja_H) := (jc_V (r_Nu_shiftRight h y0 y1 y2) (fun h1 => (r_Nu_reckonSpans_158 h1)))
theorem t_Nu_reckonSpans_137 {h : ja_H} {y0 : Nat} {y1 : Nat} {y2 : Nat} : ja_D ja_gV M_Nu_reckonSpans 137 [some (.ref y0), some (.ref y1), some (.ref y2)] [] h (r_Nu_reckonSpans_137 h y0 y1 y2) := by
  unfold r_Nu_reckonSpans_137
  refine jd_aload_n i_Nu_reckonSpans_137 rfl ?_
  refine jd_aload_n i_Nu_reckonSpans_138 rfl ?_
  refine jd_aload_n i_Nu_reckonSpans_139 rfl ?_
  refine jd_callSV G_Nu_82 sc_Nu_shiftRight (fun _ e => c_Nu_shiftRight e) rfl ⟨by decide, by decide⟩ rfl (Nat.le_of_ble_eq_true rfl) i_Nu_reckonSpans_140 (fun h1 => ?_)
  refine jd_goto 158 i_Nu_reckonSpans_143 (by decide) ?_
  exact jd_less (t_Nu_reckonSpans_158) trivial
noncomputable def r_Nu_reckonSpans_120 (h : ja_H) (y1 : Nat) (y2 : Nat) : Option (ja_H) := (jc_V (r_Nu_or h y1 y2) (fun h1 => (r_Nu_reckonSpans_158 h1)))
theorem t_Nu_reckonSpans_120 {h : ja_H} {y1 : Nat} {y2 : Nat} : ja_D ja_gV M_Nu_reckonSpans 120 [none, some (.ref y1), some (.ref y2)] [] h (r_Nu_reckonSpans_120 h y1 y2) := by
  unfold r_Nu_reckonSpans_120
  refine jd_aload_n i_Nu_reckonSpans_120 rfl ?_
  refine jd_aload_n i_Nu_reckonSpans_121 rfl ?_
  refine jd_callSV G_Nu_76 sc_Nu_or (fun _ e => c_Nu_or e) rfl ⟨by decide, by decide⟩ rfl (Nat.le_of_ble_eq_true rfl) i_Nu_reckonSpans_122 (fun h1 => ?_)
  refine jd_goto 158 i_Nu_reckonSpans_125 (by decide) ?_
  exact jd_less (t_Nu_reckonSpans_158) trivial
noncomputable def r_Nu_reckonSpans (h : ja_H) (a0 : Nat) (a1 : Nat) (a2 : Nat) : Option (ja_H) := (jf_I h a0 4 6 (fun v101 => (jsw v101 [0, 1, 2, 3, 4, 5, 6, 7, 8, 9, 10, 11, 12] [(jc_V (r_Nu_add h a1 a2) (fun h102 => (r_Nu_reckonSpans_158 h102))), (jc_V (r_Nu_subtract h a1 a2) (fun h103 => (r_Nu_reckonSpans_158 h103))), (jc_V (r_Nu_multiply h a1 a2) (fun h104 => (r_Nu_reckonSpans_158 h104))), (jc_V (r_Nu_divide h a1 a2) (fun h105 => (r_Nu_reckonSpans_158 h105))), (r_Nu_reckonSpans_120 h a1 a2), (jc_V (r_Nu_and h a1 a2) (fun h106 => (r_Nu_reckonSpans_158 h106))), (jc_V (r_Nu_shiftLeft h a0 a1 a2) (fun h107 => (r_Nu_reckonSpans_158 h107))), (r_Nu_reckonSpans_137 h a0 a1 a2), (jc_V (r_Nu_negate h a1) (fun h108 => (r_Nu_reckonSpans_158 h108))), (jc_V (r_Nu_leaveOver h a1 a2) (fun h109 => (r_Nu_reckonSpans_158 h109))), (r_Nu_reckonSpans_120 h a1 a2), (r_Nu_reckonSpans_153 h a0 a1), (r_Nu_reckonSpans_137 h a0 a1 a2)] (r_Nu_reckonSpans_153 h a0 a1))))
theorem e_Nu_reckonSpans {h : ja_H} {a0 : Nat} {a1 : Nat} {a2 : Nat} : ja_D ja_gV M_Nu_reckonSpans 0 [some (.ref a0), some (.ref a1), some (.ref a2)] [] h (r_Nu_reckonSpans h a0 a1 a2) := by
  unfold r_Nu_reckonSpans
  refine jd_aload_n i_Nu_reckonSpans_0 rfl ?_
  refine jd_getI F_Nu_54 i_Nu_reckonSpans_1 (fun v101 => ?_)
  refine jd_ts 153 [0, 1, 2, 3, 4, 5, 6, 7, 8, 9, 10, 11, 12] [72, 80, 88, 96, 120, 112, 128, 137, 146, 104, 120, 153, 137] i_Nu_reckonSpans_4 rfl (by decide) (by decide) (by decide) ?_ ⟨?_, ?_, ?_, ?_, ?_, ?_, ?_, ?_, ?_, ?_, ?_, ?_, ?_, trivial⟩
  · exact jd_less (t_Nu_reckonSpans_153) ⟨rfl, rfl, trivial⟩
  · refine jd_aload_n i_Nu_reckonSpans_72 rfl ?_
    refine jd_aload_n i_Nu_reckonSpans_73 rfl ?_
    refine jd_callSV G_Nu_57 sc_Nu_add (fun _ e => c_Nu_add e) rfl ⟨by decide, by decide⟩ rfl (Nat.le_of_ble_eq_true rfl) i_Nu_reckonSpans_74 (fun h102 => ?_)
    refine jd_goto 158 i_Nu_reckonSpans_77 (by decide) ?_
    exact jd_less (t_Nu_reckonSpans_158) trivial
  · refine jd_aload_n i_Nu_reckonSpans_80 rfl ?_
    refine jd_aload_n i_Nu_reckonSpans_81 rfl ?_
    refine jd_callSV G_Nu_61 sc_Nu_subtract (fun _ e => c_Nu_subtract e) rfl ⟨by decide, by decide⟩ rfl (Nat.le_of_ble_eq_true rfl) i_Nu_reckonSpans_82 (fun h103 => ?_)
    refine jd_goto 158 i_Nu_reckonSpans_85 (by decide) ?_
    exact jd_less (t_Nu_reckonSpans_158) trivial
  · refine jd_aload_n i_Nu_reckonSpans_88 rfl ?_
    refine jd_aload_n i_Nu_reckonSpans_89 rfl ?_
    refine jd_callSV G_Nu_64 sc_Nu_multiply (fun _ e => c_Nu_multiply e) rfl ⟨by decide, by decide⟩ rfl (Nat.le_of_ble_eq_true rfl) i_Nu_reckonSpans_90 (fun h104 => ?_)
    refine jd_goto 158 i_Nu_reckonSpans_93 (by decide) ?_
    exact jd_less (t_Nu_reckonSpans_158) trivial
  · refine jd_aload_n i_Nu_reckonSpans_96 rfl ?_
    refine jd_aload_n i_Nu_reckonSpans_97 rfl ?_
    refine jd_callSV G_Nu_67 sc_Nu_divide (fun _ e => c_Nu_divide e) rfl ⟨by decide, by decide⟩ rfl (Nat.le_of_ble_eq_true rfl) i_Nu_reckonSpans_98 (fun h105 => ?_)
    refine jd_goto 158 i_Nu_reckonSpans_101 (by decide) ?_
    exact jd_less (t_Nu_reckonSpans_158) trivial
  · exact jd_less (t_Nu_reckonSpans_120) ⟨rfl, rfl, trivial⟩
  · refine jd_aload_n i_Nu_reckonSpans_112 rfl ?_
    refine jd_aload_n i_Nu_reckonSpans_113 rfl ?_
    refine jd_callSV G_Nu_73 sc_Nu_and (fun _ e => c_Nu_and e) rfl ⟨by decide, by decide⟩ rfl (Nat.le_of_ble_eq_true rfl) i_Nu_reckonSpans_114 (fun h106 => ?_)
    refine jd_goto 158 i_Nu_reckonSpans_117 (by decide) ?_
    exact jd_less (t_Nu_reckonSpans_158) trivial
  · refine jd_aload_n i_Nu_reckonSpans_128 rfl ?_
    refine jd_aload_n i_Nu_reckonSpans_129 rfl ?_
    refine jd_aload_n i_Nu_reckonSpans_130 rfl ?_
    refine jd_callSV G_Nu_79 sc_Nu_shiftLeft (fun _ e => c_Nu_shiftLeft e) rfl ⟨by decide, by decide⟩ rfl (Nat.le_of_ble_eq_true rfl) i_Nu_reckonSpans_131 (fun h107 => ?_)
    refine jd_goto 158 i_Nu_reckonSpans_134 (by decide) ?_
    exact jd_less (t_Nu_reckonSpans_158) trivial
  · exact jd_less (t_Nu_reckonSpans_137) ⟨rfl, rfl, rfl, trivial⟩
  · refine jd_aload_n i_Nu_reckonSpans_146 rfl ?_
    refine jd_callSV G_Nu_85 sc_Nu_negate (fun _ e => c_Nu_negate e) rfl ⟨by decide, by decide⟩ rfl (Nat.le_of_ble_eq_true rfl) i_Nu_reckonSpans_147 (fun h108 => ?_)
    refine jd_goto 158 i_Nu_reckonSpans_150 (by decide) ?_
    exact jd_less (t_Nu_reckonSpans_158) trivial
  · refine jd_aload_n i_Nu_reckonSpans_104 rfl ?_
    refine jd_aload_n i_Nu_reckonSpans_105 rfl ?_
    refine jd_callSV G_Nu_70 sc_Nu_leaveOver (fun _ e => c_Nu_leaveOver e) rfl ⟨by decide, by decide⟩ rfl (Nat.le_of_ble_eq_true rfl) i_Nu_reckonSpans_106 (fun h109 => ?_)
    refine jd_goto 158 i_Nu_reckonSpans_109 (by decide) ?_
    exact jd_less (t_Nu_reckonSpans_158) trivial
  · exact jd_less (t_Nu_reckonSpans_120) ⟨rfl, rfl, trivial⟩
  · exact jd_less (t_Nu_reckonSpans_153) ⟨rfl, rfl, trivial⟩
  · exact jd_less (t_Nu_reckonSpans_137) ⟨rfl, rfl, rfl, trivial⟩
theorem c_Nu_reckonSpans {h : ja_H} {a0 : Nat} {a1 : Nat} {a2 : Nat} {o : ja_H} (e : r_Nu_reckonSpans h a0 a1 a2 = some o) : ja_M (2, 54) y_Nu_reckonSpans b_Nu_reckonSpans 3 (none) [.ref a0, .ref a1, .ref a2] h [] o := jc_of (g := ja_gV) false _ e e_Nu_reckonSpans rfl (by decide +kernel) (fun q => nomatch q) (Nat.le_of_ble_eq_true rfl) (fun _ q => nomatch q) (Nat.le_of_ble_eq_true rfl)
noncomputable def r_Nu_reckon_86 (h : ja_H) : Option (ja_H) := (some h)
theorem t_Nu_reckon_86 {h : ja_H} : ja_D ja_gV M_Nu_reckon 86 [none, none, none, none, none] [] h (r_Nu_reckon_86 h) := by
  unfold r_Nu_reckon_86
  exact jd_return i_Nu_reckon_86 rfl
noncomputable def r_Nu_reckon_53 (h : ja_H) (y0 : Nat) (y1 : Nat) (y2 : Nat) : Option (ja_H) := (jc_V (r_Nu_reckonSpans h y0 y1 y2) (fun h1 => (jk h1 y0 4 (jc_I (r_Wo_isOf32 h1 y0) (fun v3 h2 => (if v3 = (0 : Int32) then (r_Nu_reckon_86 h2) else (jk h2 y1 7 (jc_I (r_Va_isWithin h2 y1 (0 : Int64) (4294967295 : Int64)) (fun v5 h4 => (if v5 = (0 : Int32) then (jk h4 y1 7 (jc_V (r_Va_become h4 y1 (1 : Int32) (0 : Int64) (4294967295 : Int64)) (fun h6 => (r_Nu_reckon_86 h6)))) else (r_Nu_reckon_86 h4)))))))))))
theorem t_Nu_reckon_53 {h : ja_H} {y0 : Nat} {y1 : Nat} {y2 : Nat} : ja_D ja_gV M_Nu_reckon 53 [some (.ref y0), some (.ref y1), some (.ref y2), none, none] [] h (r_Nu_reckon_53 h y0 y1 y2) := by
  unfold r_Nu_reckon_53
  refine jd_aload_n i_Nu_reckon_53 rfl ?_
  refine jd_aload_n i_Nu_reckon_54 rfl ?_
  refine jd_aload_n i_Nu_reckon_55 rfl ?_
  refine jd_callSV G_Nu_44 sc_Nu_reckonSpans (fun _ e => c_Nu_reckonSpans e) rfl ⟨by decide, by decide⟩ rfl (Nat.le_of_ble_eq_true rfl) i_Nu_reckon_56 (fun h1 => ?_)
  refine jd_aload_n i_Nu_reckon_59 rfl ?_
  refine jd_callVI G_Nu_9 in_Wo_isOf32 se_Wo_isOf32 rfl (fun _ e => c_Wo_isOf32 e) rfl ⟨by decide, by decide⟩ rfl (Nat.le_of_ble_eq_true rfl) i_Nu_reckon_60 (fun v3 h2 => ?_)
  refine jd_if_eq 86 i_Nu_reckon_63 (by decide) ?_ ?_
  · exact jd_less (t_Nu_reckon_86) trivial
  · refine jd_aload_n i_Nu_reckon_66 rfl ?_
    refine jd_lconst 0 i_Nu_reckon_67 (by decide) ?_
    refine jd_ldc2 i_Nu_reckon_68 K_Nu_48 ?_
    refine jd_callVI G_Nu_50 in_Va_isWithin se_Va_isWithin rfl (fun _ e => c_Va_isWithin e) rfl ⟨by decide, by decide⟩ rfl (Nat.le_of_ble_eq_true rfl) i_Nu_reckon_71 (fun v5 h4 => ?_)
    refine jd_if_ne 86 i_Nu_reckon_74 (by decide) ?_ ?_
    · exact jd_less (t_Nu_reckon_86) trivial
    · refine jd_aload_n i_Nu_reckon_77 rfl ?_
      refine jd_iconst 1 i_Nu_reckon_78 (by decide) ?_
      refine jd_lconst 0 i_Nu_reckon_79 (by decide) ?_
      refine jd_ldc2 i_Nu_reckon_80 K_Nu_48 ?_
      refine jd_callVV G_Nu_40 in_Va_become se_Va_become rfl (fun _ e => c_Va_become e) rfl ⟨by decide, by decide⟩ rfl (Nat.le_of_ble_eq_true rfl) i_Nu_reckon_83 (fun h6 => ?_)
      exact jd_less (t_Nu_reckon_86) trivial
noncomputable def r_Nu_reckon_15 (h : ja_H) (y0 : Nat) (y1 : Nat) (y2 : Nat) : Option (ja_H) := (jk h y1 7 (jc_I (r_Va_isOne h y1) (fun v2 h1 => (if v2 = (0 : Int32) then (r_Nu_reckon_53 h1 y0 y1 y2) else (jk h1 y2 7 (jc_I (r_Va_isOne h1 y2) (fun v4 h3 => (if v4 = (0 : Int32) then (r_Nu_reckon_53 h3 y0 y1 y2) else (jf_I h3 y0 4 0 (fun v5 => (jf_L h3 y1 7 1 (fun v6 => (jf_L h3 y2 7 1 (fun v7 => (jc_L (r_Ar_reckon h3 v5 v6 v7) (fun v9 h8 => (jl (v9 : Int64) (fun (x10 : Int64) => (jk h8 y1 7 (jc_V (r_Va_become h8 y1 (1 : Int32) x10 x10) (fun h11 => (some h11))))))))))))))))))))))
theorem t_Nu_reckon_15 {h : ja_H} {y0 : Nat} {y1 : Nat} {y2 : Nat} : ja_D ja_gV M_Nu_reckon 15 [some (.ref y0), some (.ref y1), some (.ref y2), none, none] [] h (r_Nu_reckon_15 h y0 y1 y2) := by
  unfold r_Nu_reckon_15
  refine jd_aload_n i_Nu_reckon_15 rfl ?_
  refine jd_callVI G_Nu_21 in_Va_isOne se_Va_isOne rfl (fun _ e => c_Va_isOne e) rfl ⟨by decide, by decide⟩ rfl (Nat.le_of_ble_eq_true rfl) i_Nu_reckon_16 (fun v2 h1 => ?_)
  refine jd_if_eq 53 i_Nu_reckon_19 (by decide) ?_ ?_
  · exact jd_less (t_Nu_reckon_53) ⟨rfl, rfl, rfl, trivial⟩
  · refine jd_aload_n i_Nu_reckon_22 rfl ?_
    refine jd_callVI G_Nu_21 in_Va_isOne se_Va_isOne rfl (fun _ e => c_Va_isOne e) rfl ⟨by decide, by decide⟩ rfl (Nat.le_of_ble_eq_true rfl) i_Nu_reckon_23 (fun v4 h3 => ?_)
    refine jd_if_eq 53 i_Nu_reckon_26 (by decide) ?_ ?_
    · exact jd_less (t_Nu_reckon_53) ⟨rfl, rfl, rfl, trivial⟩
    · refine jd_aload_n i_Nu_reckon_29 rfl ?_
      refine jd_getI F_Nu_26 i_Nu_reckon_30 (fun v5 => ?_)
      refine jd_aload_n i_Nu_reckon_33 rfl ?_
      refine jd_getL F_Nu_30 i_Nu_reckon_34 (fun v6 => ?_)
      refine jd_aload_n i_Nu_reckon_37 rfl ?_
      refine jd_getL F_Nu_30 i_Nu_reckon_38 (fun v7 => ?_)
      refine jd_callSL G_Nu_34 sc_Ar_reckon (fun _ e => c_Ar_reckon e) rfl ⟨by decide, by decide⟩ rfl (Nat.le_of_ble_eq_true rfl) i_Nu_reckon_41 (fun v9 h8 => ?_)
      refine jd_lstore_n (fun x10 => [some (.ref y0), some (.ref y1), some (.ref y2), some (.long x10), none]) i_Nu_reckon_44 (by decide) rfl (fun _ => rfl) (fun x10 => ?_)
      refine jd_aload_n i_Nu_reckon_45 rfl ?_
      refine jd_iconst 1 i_Nu_reckon_46 (by decide) ?_
      refine jd_lload_n i_Nu_reckon_47 rfl ?_
      refine jd_lload_n i_Nu_reckon_48 rfl ?_
      refine jd_callVV G_Nu_40 in_Va_become se_Va_become rfl (fun _ e => c_Va_become e) rfl ⟨by decide, by decide⟩ rfl (Nat.le_of_ble_eq_true rfl) i_Nu_reckon_49 (fun h11 => ?_)
      exact jd_return i_Nu_reckon_52 rfl
noncomputable def r_Nu_reckon (h : ja_H) (a0 : Nat) (a1 : Nat) (a2 : Nat) : Option (ja_H) := (jk h a0 4 (jc_I (r_Wo_isOf32 h a0) (fun v102 h101 => (if v102 = (0 : Int32) then (r_Nu_reckon_15 h101 a0 a1 a2) else (jc_V (r_Nu_takeLowest32 h101 a1) (fun h103 => (jc_V (r_Nu_takeLowest32 h103 a2) (fun h104 => (r_Nu_reckon_15 h104 a0 a1 a2)))))))))
theorem e_Nu_reckon {h : ja_H} {a0 : Nat} {a1 : Nat} {a2 : Nat} : ja_D ja_gV M_Nu_reckon 0 [some (.ref a0), some (.ref a1), some (.ref a2), none, none] [] h (r_Nu_reckon h a0 a1 a2) := by
  unfold r_Nu_reckon
  refine jd_aload_n i_Nu_reckon_0 rfl ?_
  refine jd_callVI G_Nu_9 in_Wo_isOf32 se_Wo_isOf32 rfl (fun _ e => c_Wo_isOf32 e) rfl ⟨by decide, by decide⟩ rfl (Nat.le_of_ble_eq_true rfl) i_Nu_reckon_1 (fun v102 h101 => ?_)
  refine jd_if_eq 15 i_Nu_reckon_4 (by decide) ?_ ?_
  · exact jd_less (t_Nu_reckon_15) ⟨rfl, rfl, rfl, trivial⟩
  · refine jd_aload_n i_Nu_reckon_7 rfl ?_
    refine jd_callSV G_Nu_15 sc_Nu_takeLowest32 (fun _ e => c_Nu_takeLowest32 e) rfl ⟨by decide, by decide⟩ rfl (Nat.le_of_ble_eq_true rfl) i_Nu_reckon_8 (fun h103 => ?_)
    refine jd_aload_n i_Nu_reckon_11 rfl ?_
    refine jd_callSV G_Nu_15 sc_Nu_takeLowest32 (fun _ e => c_Nu_takeLowest32 e) rfl ⟨by decide, by decide⟩ rfl (Nat.le_of_ble_eq_true rfl) i_Nu_reckon_12 (fun h104 => ?_)
    exact jd_less (t_Nu_reckon_15) ⟨rfl, rfl, rfl, trivial⟩
theorem c_Nu_reckon {h : ja_H} {a0 : Nat} {a1 : Nat} {a2 : Nat} {o : ja_H} (e : r_Nu_reckon h a0 a1 a2 = some o) : ja_M (3, 83) y_Nu_reckon b_Nu_reckon 5 (none) [.ref a0, .ref a1, .ref a2] h [] o := jc_of (g := ja_gV) false _ e e_Nu_reckon rfl (by decide +kernel) (fun q => nomatch q) (Nat.le_of_ble_eq_true rfl) (fun _ q => nomatch q) (Nat.le_of_ble_eq_true rfl)
