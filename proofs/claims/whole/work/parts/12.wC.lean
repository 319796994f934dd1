/-! by program: functions of the methods and their walks: He_collect, Me_resize, Ru_nextUse, Ru_furthest, Ru_fewestFaults, Co_within, Co_limit, Co_flip, Co_refresh, Co_cell, Co_open, Jd_bitCount, Co_patterns, Co_lines, Co_rule, Co_line, Co_frames, Co_page, Co_loadTold, Co_load, Co_save, Co_fewest, Co_make, Co_get, Co_put, Co_hold, Co_gather, Co_about -/
theorem D_He_collect_0 : decode prog_4_method_12_code 0 = .ok (.aload_n 0, 1) := by decide +kernel
theorem D_He_collect_1 : decode prog_4_method_12_code 1 = .ok (.getfield 40, 3) := by decide +kernel
theorem D_He_collect_4 : decode prog_4_method_12_code 4 = .ok (.iconst 1, 1) := by decide +kernel
theorem D_He_collect_5 : decode prog_4_method_12_code 5 = .ok (.putfield 78, 3) := by decide +kernel
theorem D_He_collect_8 : decode prog_4_method_12_code 8 = .ok (.aload_n 0, 1) := by decide +kernel
theorem D_He_collect_9 : decode prog_4_method_12_code 9 = .ok (.getfield 40, 3) := by decide +kernel
theorem D_He_collect_12 : decode prog_4_method_12_code 12 = .ok (.bipush 13, 2) := by decide +kernel
theorem D_He_collect_14 : decode prog_4_method_12_code 14 = .ok (.iconst 1, 1) := by decide +kernel
theorem D_He_collect_15 : decode prog_4_method_12_code 15 = .ok (.invokevirtual 59, 3) := by decide +kernel
theorem D_He_collect_18 : decode prog_4_method_12_code 18 = .ok (.aload_n 0, 1) := by decide +kernel
theorem D_He_collect_19 : decode prog_4_method_12_code 19 = .ok (.iload_n 1, 1) := by decide +kernel
theorem D_He_collect_20 : decode prog_4_method_12_code 20 = .ok (.invokevirtual 82, 3) := by decide +kernel
theorem D_He_collect_23 : decode prog_4_method_12_code 23 = .ok (.aload_n 0, 1) := by decide +kernel
theorem D_He_collect_24 : decode prog_4_method_12_code 24 = .ok (.iconst 0, 1) := by decide +kernel
theorem D_He_collect_25 : decode prog_4_method_12_code 25 = .ok (.invokevirtual 86, 3) := by decide +kernel
theorem D_He_collect_28 : decode prog_4_method_12_code 28 = .ok (.istore_n 2, 1) := by decide +kernel
theorem D_He_collect_29 : decode prog_4_method_12_code 29 = .ok (.iconst 0, 1) := by decide +kernel
theorem D_He_collect_30 : decode prog_4_method_12_code 30 = .ok (.istore_n 3, 1) := by decide +kernel
theorem D_He_collect_31 : decode prog_4_method_12_code 31 = .ok (.iload_n 3, 1) := by decide +kernel
theorem D_He_collect_32 : decode prog_4_method_12_code 32 = .ok (.bipush 40, 2) := by decide +kernel
theorem D_He_collect_34 : decode prog_4_method_12_code 34 = .ok (.if_icmp .ge 66, 3) := by decide +kernel
theorem D_He_collect_37 : decode prog_4_method_12_code 37 = .ok (.aload_n 0, 1) := by decide +kernel
theorem D_He_collect_38 : decode prog_4_method_12_code 38 = .ok (.iload_n 3, 1) := by decide +kernel
theorem D_He_collect_39 : decode prog_4_method_12_code 39 = .ok (.invokevirtual 55, 3) := by decide +kernel
theorem D_He_collect_42 : decode prog_4_method_12_code 42 = .ok (.ifCond .eq 52, 3) := by decide +kernel
theorem D_He_collect_45 : decode prog_4_method_12_code 45 = .ok (.aload_n 0, 1) := by decide +kernel
theorem D_He_collect_46 : decode prog_4_method_12_code 46 = .ok (.getfield 37, 3) := by decide +kernel
theorem D_He_collect_49 : decode prog_4_method_12_code 49 = .ok (.iload_n 3, 1) := by decide +kernel
theorem D_He_collect_50 : decode prog_4_method_12_code 50 = .ok (.baload, 1) := by decide +kernel
theorem D_He_collect_51 : decode prog_4_method_12_code 51 = .ok (.ifCond .ne 43, 3) := by decide +kernel
theorem D_He_collect_54 : decode prog_4_method_12_code 54 = .ok (.aload_n 0, 1) := by decide +kernel
theorem D_He_collect_55 : decode prog_4_method_12_code 55 = .ok (.getfield 21, 3) := by decide +kernel
theorem D_He_collect_58 : decode prog_4_method_12_code 58 = .ok (.iload_n 3, 1) := by decide +kernel
theorem D_He_collect_59 : decode prog_4_method_12_code 59 = .ok (.baload, 1) := by decide +kernel
theorem D_He_collect_60 : decode prog_4_method_12_code 60 = .ok (.ifCond .ne 6, 3) := by decide +kernel
theorem D_He_collect_63 : decode prog_4_method_12_code 63 = .ok (.goto 31, 3) := by decide +kernel
theorem D_He_collect_66 : decode prog_4_method_12_code 66 = .ok (.aload_n 0, 1) := by decide +kernel
theorem D_He_collect_67 : decode prog_4_method_12_code 67 = .ok (.getfield 21, 3) := by decide +kernel
theorem D_He_collect_70 : decode prog_4_method_12_code 70 = .ok (.iload_n 3, 1) := by decide +kernel
theorem D_He_collect_71 : decode prog_4_method_12_code 71 = .ok (.iconst 0, 1) := by decide +kernel
theorem D_He_collect_72 : decode prog_4_method_12_code 72 = .ok (.bastore, 1) := by decide +kernel
theorem D_He_collect_73 : decode prog_4_method_12_code 73 = .ok (.aload_n 0, 1) := by decide +kernel
theorem D_He_collect_74 : decode prog_4_method_12_code 74 = .ok (.getfield 40, 3) := by decide +kernel
theorem D_He_collect_77 : decode prog_4_method_12_code 77 = .ok (.bipush 10, 2) := by decide +kernel
theorem D_He_collect_79 : decode prog_4_method_12_code 79 = .ok (.iconst 1, 1) := by decide +kernel
theorem D_He_collect_80 : decode prog_4_method_12_code 80 = .ok (.invokevirtual 59, 3) := by decide +kernel
theorem D_He_collect_83 : decode prog_4_method_12_code 83 = .ok (.aload_n 0, 1) := by decide +kernel
theorem D_He_collect_84 : decode prog_4_method_12_code 84 = .ok (.iload_n 3, 1) := by decide +kernel
theorem D_He_collect_85 : decode prog_4_method_12_code 85 = .ok (.invokevirtual 89, 3) := by decide +kernel
theorem D_He_collect_88 : decode prog_4_method_12_code 88 = .ok (.aload_n 0, 1) := by decide +kernel
theorem D_He_collect_89 : decode prog_4_method_12_code 89 = .ok (.iload_n 2, 1) := by decide +kernel
theorem D_He_collect_90 : decode prog_4_method_12_code 90 = .ok (.invokevirtual 86, 3) := by decide +kernel
theorem D_He_collect_93 : decode prog_4_method_12_code 93 = .ok (.istore_n 2, 1) := by decide +kernel
theorem D_He_collect_94 : decode prog_4_method_12_code 94 = .ok (.iinc 3 1, 3) := by decide +kernel
theorem D_He_collect_97 : decode prog_4_method_12_code 97 = .ok (.goto (-66), 3) := by decide +kernel
theorem D_He_collect_100 : decode prog_4_method_12_code 100 = .ok (.aload_n 0, 1) := by decide +kernel
theorem D_He_collect_101 : decode prog_4_method_12_code 101 = .ok (.invokevirtual 92, 3) := by decide +kernel
theorem D_He_collect_104 : decode prog_4_method_12_code 104 = .ok (.istore_n 3, 1) := by decide +kernel
theorem D_He_collect_105 : decode prog_4_method_12_code 105 = .ok (.iload_n 1, 1) := by decide +kernel
theorem D_He_collect_106 : decode prog_4_method_12_code 106 = .ok (.ifCond .eq 7, 3) := by decide +kernel
theorem D_He_collect_109 : decode prog_4_method_12_code 109 = .ok (.aload_n 0, 1) := by decide +kernel
theorem D_He_collect_110 : decode prog_4_method_12_code 110 = .ok (.invokevirtual 96, 3) := by decide +kernel
theorem D_He_collect_113 : decode prog_4_method_12_code 113 = .ok (.iconst 0, 1) := by decide +kernel
theorem D_He_collect_114 : decode prog_4_method_12_code 114 = .ok (.istore 4, 2) := by decide +kernel
theorem D_He_collect_116 : decode prog_4_method_12_code 116 = .ok (.iload 4, 2) := by decide +kernel
theorem D_He_collect_118 : decode prog_4_method_12_code 118 = .ok (.bipush 40, 2) := by decide +kernel
theorem D_He_collect_120 : decode prog_4_method_12_code 120 = .ok (.if_icmp .ge 29, 3) := by decide +kernel
theorem D_He_collect_123 : decode prog_4_method_12_code 123 = .ok (.aload_n 0, 1) := by decide +kernel
theorem D_He_collect_124 : decode prog_4_method_12_code 124 = .ok (.iload 4, 2) := by decide +kernel
theorem D_He_collect_126 : decode prog_4_method_12_code 126 = .ok (.invokevirtual 55, 3) := by decide +kernel
theorem D_He_collect_129 : decode prog_4_method_12_code 129 = .ok (.ifCond .eq 14, 3) := by decide +kernel
theorem D_He_collect_132 : decode prog_4_method_12_code 132 = .ok (.aload_n 0, 1) := by decide +kernel
theorem D_He_collect_133 : decode prog_4_method_12_code 133 = .ok (.getfield 18, 3) := by decide +kernel
theorem D_He_collect_136 : decode prog_4_method_12_code 136 = .ok (.iload 4, 2) := by decide +kernel
theorem D_He_collect_138 : decode prog_4_method_12_code 138 = .ok (.dup2, 1) := by decide +kernel
theorem D_He_collect_139 : decode prog_4_method_12_code 139 = .ok (.iaload, 1) := by decide +kernel
theorem D_He_collect_140 : decode prog_4_method_12_code 140 = .ok (.iconst 1, 1) := by decide +kernel
theorem D_He_collect_141 : decode prog_4_method_12_code 141 = .ok (.iadd, 1) := by decide +kernel
theorem D_He_collect_142 : decode prog_4_method_12_code 142 = .ok (.iastore, 1) := by decide +kernel
theorem D_He_collect_143 : decode prog_4_method_12_code 143 = .ok (.iinc 4 1, 3) := by decide +kernel
theorem D_He_collect_146 : decode prog_4_method_12_code 146 = .ok (.goto (-30), 3) := by decide +kernel
theorem D_He_collect_149 : decode prog_4_method_12_code 149 = .ok (.aload_n 0, 1) := by decide +kernel
theorem D_He_collect_150 : decode prog_4_method_12_code 150 = .ok (.getfield 40, 3) := by decide +kernel
theorem D_He_collect_153 : decode prog_4_method_12_code 153 = .ok (.iconst 0, 1) := by decide +kernel
theorem D_He_collect_154 : decode prog_4_method_12_code 154 = .ok (.putfield 78, 3) := by decide +kernel
theorem D_He_collect_157 : decode prog_4_method_12_code 157 = .ok (.iload_n 3, 1) := by decide +kernel
theorem D_He_collect_158 : decode prog_4_method_12_code 158 = .ok (.ireturn, 1) := by decide +kernel
def j_He_collect_94 (k1 : gM → gO) (rec : gM → Int → Int → gO) (σ : gM) (p1 v2 v3 : Int) : gO :=
  ga (v3 + 1) fun a1 =>
  rec σ v2 a1
set_option maxHeartbeats 4000000 in
theorem wj_He_collect_94 {X : gX} (C : gC gctC prog_4_method_12_code kR2 5 6 151 (some .int) X) {p1 : Int} {k1 : gM → gO} (hk1 : ∀ (σ : gM), GG gctC X 100 [(0, .inr (.inr 28)), (1, .inl p1)] [] σ (k1 σ)) {rec : gM → Int → Int → gO} (hrec : ∀ (σ : gM) (a0 a1 : Int), GG gctC X 31 [(0, .inr (.inr 28)), (1, .inl p1), (2, .inl a0), (3, .inl a1)] [] σ (rec σ a0 a1)) (σ : gM) (v2 v3 : Int) : GG gctC X 94 [(0, .inr (.inr 28)), (1, .inl p1), (2, .inl v2), (3, .inl v3)] [] σ (j_He_collect_94 k1 rec σ p1 v2 v3) := by
  unfold j_He_collect_94
  refine g_iinc (t := 3) (L' := fun z => [(3, .inl z), (0, .inr (.inr 28)), (1, .inl p1), (2, .inl v2)]) C D_He_collect_94 rfl (by decide) (fun _ => rfl) (fun a1 => ?_)
  refine g_goto (tgt := 31) C D_He_collect_97 (by decide) ?_
  refine g_sub [1, 2, 3, 0] rfl ?_
  exact hrec _ _ _
def l_He_collect_31 (k1 : gM → gO) (p1 : Int) (rec : gM → Int → Int → gO) (σ : gM) (v2 v3 : Int) : gO :=
  if v3 < 40 then
  (gk (F_He_has σ v3) fun s1 a2 =>
  if a2 = 0 then
  (j_He_collect_94 k1 rec s1 p1 v2 v3)
  else
  (gi v3 40 <|
  if (s1 37 v3) = 0 then
  (gi v3 40 <|
  if (s1 32 v3) = 0 then
  (j_He_collect_94 k1 rec s1 p1 v2 v3)
  else
  (gwb s1 32 40 v3 0 fun s3 =>
  gk (F_Le_add s3 10 1) fun s4 _ =>
  gk (F_He_putBehind s4 v3) fun s5 _ =>
  gk (F_He_follow s5 v2) fun s6 a7 =>
  j_He_collect_94 k1 rec s6 p1 a7 v3))
  else
  (j_He_collect_94 k1 rec s1 p1 v2 v3)))
  else
  (k1 σ)
set_option maxHeartbeats 4000000 in
theorem wl_He_collect_31 {X : gX} (C : gC gctC prog_4_method_12_code kR2 5 6 151 (some .int) X) {p1 : Int} {k1 : gM → gO} (hk1 : ∀ (σ : gM), GG gctC X 100 [(0, .inr (.inr 28)), (1, .inl p1)] [] σ (k1 σ)) : ∀ (n : Nat) (σ : gM) (a0 a1 : Int), GG gctC X 31 [(0, .inr (.inr 28)), (1, .inl p1), (2, .inl a0), (3, .inl a1)] [] σ (gl2 (l_He_collect_31 k1 p1) n σ a0 a1) := by
  refine gl2_run (P := fun σ a0 a1 o => GG gctC X 31 [(0, .inr (.inr 28)), (1, .inl p1), (2, .inl a0), (3, .inl a1)] [] σ o) (fun _ _ _ => g_none) (fun rec hrec σ v2 v3 => ?_)
  unfold l_He_collect_31
  refine g_iload_n C D_He_collect_31 rfl 3 rfl ?_
  refine g_bipush C D_He_collect_32 (by decide) ⟨by decide, by decide⟩ ?_
  refine g_icmp_ge (tgt := 100) C D_He_collect_34 (by decide) ?_ ?_
  · refine g_sub [0, 1] rfl ?_
    exact hk1 _
  · refine g_aload_n C D_He_collect_37 rfl 0 rfl ?_
    refine g_iload_n C D_He_collect_38 rfl 3 rfl ?_
    refine g_callVi (ci := 2) C [.inl v3] [] (Or.inr rfl) rfl (fun _ h1 h2 h3 => c_He_has h1 h2 h3) rfl rfl wc_2_55 (by decide) (Nat.le_of_ble_eq_true rfl) D_He_collect_39 (fun s1 a2 => ?_)
    refine g_if_eq (tgt := 94) C D_He_collect_42 (by decide) ?_ ?_
    · exact wj_He_collect_94 C hk1 hrec _ _ _
    · refine g_aload_n C D_He_collect_45 rfl 0 rfl ?_
      refine g_getr (ci := 2) C 8 rfl kI2 rfl (by decide) rfl rfl wf_2_37 D_He_collect_46 ?_
      refine g_iload_n C D_He_collect_49 rfl 3 rfl ?_
      refine g_zald C rfl rfl rfl D_He_collect_50 ?_
      refine g_if_ne (tgt := 94) C D_He_collect_51 (by decide) ?_ ?_
      · exact wj_He_collect_94 C hk1 hrec _ _ _
      · refine g_aload_n C D_He_collect_54 rfl 0 rfl ?_
        refine g_getr (ci := 2) C 3 rfl kI2 rfl (by decide) rfl rfl wf_2_21 D_He_collect_55 ?_
        refine g_iload_n C D_He_collect_58 rfl 3 rfl ?_
        refine g_zald C rfl rfl rfl D_He_collect_59 ?_
        refine g_if_ne (tgt := 66) C D_He_collect_60 (by decide) ?_ ?_
        · refine g_aload_n C D_He_collect_66 rfl 0 rfl ?_
          refine g_getr (ci := 2) C 3 rfl kI2 rfl (by decide) rfl rfl wf_2_21 D_He_collect_67 ?_
          refine g_iload_n C D_He_collect_70 rfl 3 rfl ?_
          refine g_iconst C D_He_collect_71 ⟨by decide, by decide⟩ ?_
          refine g_zast C rfl rfl D_He_collect_72 (fun s3 => ?_)
          refine g_aload_n C D_He_collect_73 rfl 0 rfl ?_
          refine g_getr (ci := 2) C 10 rfl kI2 rfl (by decide) rfl rfl wf_2_40 D_He_collect_74 ?_
          refine g_bipush C D_He_collect_77 (by decide) ⟨by decide, by decide⟩ ?_
          refine g_iconst C D_He_collect_79 ⟨by decide, by decide⟩ ?_
          refine g_callVv (ci := 3) C [.inl 10, .inl 1] [] rfl rfl (fun _ h1 h2 h3 => c_Le_add h1 h2 h3) rfl rfl wc_2_59 (by decide) (Nat.le_of_ble_eq_true rfl) D_He_collect_80 (fun s4 _ => ?_)
          refine g_aload_n C D_He_collect_83 rfl 0 rfl ?_
          refine g_iload_n C D_He_collect_84 rfl 3 rfl ?_
          refine g_callVv (ci := 2) C [.inl v3] [] rfl rfl (fun _ h1 h2 h3 => c_He_putBehind h1 h2 h3) rfl rfl wc_2_89 (by decide) (Nat.le_of_ble_eq_true rfl) D_He_collect_85 (fun s5 _ => ?_)
          refine g_aload_n C D_He_collect_88 rfl 0 rfl ?_
          refine g_iload_n C D_He_collect_89 rfl 2 rfl ?_
          refine g_callVi (ci := 2) C [.inl v2] [] (Or.inl rfl) rfl (fun _ h1 h2 h3 => c_He_follow h1 h2 h3) rfl rfl wc_2_86 (by decide) (Nat.le_of_ble_eq_true rfl) D_He_collect_90 (fun s6 a7 => ?_)
          refine g_istore_n (L' := [(2, .inl a7), (0, .inr (.inr 28)), (1, .inl p1), (3, .inl v3)]) C D_He_collect_93 rfl (by decide) rfl ?_
          refine g_sub [1, 2, 0, 3] rfl ?_
          exact wj_He_collect_94 C hk1 hrec _ _ _
        · refine g_goto (tgt := 94) C D_He_collect_63 (by decide) ?_
          exact wj_He_collect_94 C hk1 hrec _ _ _
def j_He_collect_143 (rec : gM → Int → gO) (σ : gM) (p3 v4 : Int) : gO :=
  ga (v4 + 1) fun a1 =>
  rec σ a1
set_option maxHeartbeats 4000000 in
theorem wj_He_collect_143 {X : gX} (C : gC gctC prog_4_method_12_code kR2 5 6 151 (some .int) X) {p3 : Int} {rec : gM → Int → gO} (hrec : ∀ (σ : gM) (a0 : Int), GG gctC X 116 [(0, .inr (.inr 28)), (3, .inl p3), (4, .inl a0)] [] σ (rec σ a0)) (σ : gM) (v4 : Int) : GG gctC X 143 [(0, .inr (.inr 28)), (3, .inl p3), (4, .inl v4)] [] σ (j_He_collect_143 rec σ p3 v4) := by
  unfold j_He_collect_143
  refine g_iinc (t := 2) (L' := fun z => [(4, .inl z), (0, .inr (.inr 28)), (3, .inl p3)]) C D_He_collect_143 rfl (by decide) (fun _ => rfl) (fun a1 => ?_)
  refine g_goto (tgt := 116) C D_He_collect_146 (by decide) ?_
  refine g_sub [1, 2, 0] rfl ?_
  exact hrec _ _
def l_He_collect_116 (p3 : Int) (rec : gM → Int → gO) (σ : gM) (v4 : Int) : gO :=
  if v4 < 40 then
  (gk (F_He_has σ v4) fun s2 a3 =>
  if a3 = 0 then
  (j_He_collect_143 rec s2 p3 v4)
  else
  (gi v4 40 <|
  ga ((s2 31 v4) + 1) fun a4 =>
  gw s2 31 40 v4 a4 fun s5 =>
  j_He_collect_143 rec s5 p3 v4))
  else
  (gpb σ 2 2 0 fun s1 =>
  some (s1, p3))
set_option maxHeartbeats 4000000 in
theorem wl_He_collect_116 {X : gX} (C : gC gctC prog_4_method_12_code kR2 5 6 151 (some .int) X) {p3 : Int} : ∀ (n : Nat) (σ : gM) (a0 : Int), GG gctC X 116 [(0, .inr (.inr 28)), (3, .inl p3), (4, .inl a0)] [] σ (gl1 (l_He_collect_116 p3) n σ a0) := by
  refine gl1_run (P := fun σ a0 o => GG gctC X 116 [(0, .inr (.inr 28)), (3, .inl p3), (4, .inl a0)] [] σ o) (fun _ _ => g_none) (fun rec hrec σ v4 => ?_)
  unfold l_He_collect_116
  refine g_iload C D_He_collect_116 2 rfl ?_
  refine g_bipush C D_He_collect_118 (by decide) ⟨by decide, by decide⟩ ?_
  refine g_icmp_ge (tgt := 149) C D_He_collect_120 (by decide) ?_ ?_
  · refine g_aload_n C D_He_collect_149 rfl 0 rfl ?_
    refine g_getr (ci := 2) C 10 rfl kI2 rfl (by decide) rfl rfl wf_2_40 D_He_collect_150 ?_
    refine g_iconst C D_He_collect_153 ⟨by decide, by decide⟩ ?_
    refine g_putZ (ci := 3) C 2 (jz := 2) rfl rfl kI3 kO3 kN3 rfl (by decide) rfl rfl wf_2_78 D_He_collect_154 (fun s1 => ?_)
    refine g_iload_n C D_He_collect_157 rfl 1 rfl ?_
    exact g_iret C D_He_collect_158
  · refine g_aload_n C D_He_collect_123 rfl 0 rfl ?_
    refine g_iload C D_He_collect_124 2 rfl ?_
    refine g_callVi (ci := 2) C [.inl v4] [] (Or.inr rfl) rfl (fun _ h1 h2 h3 => c_He_has h1 h2 h3) rfl rfl wc_2_55 (by decide) (Nat.le_of_ble_eq_true rfl) D_He_collect_126 (fun s2 a3 => ?_)
    refine g_if_eq (tgt := 143) C D_He_collect_129 (by decide) ?_ ?_
    · exact wj_He_collect_143 C hrec _ _
    · refine g_aload_n C D_He_collect_132 rfl 0 rfl ?_
      refine g_getr (ci := 2) C 2 rfl kI2 rfl (by decide) rfl rfl wf_2_18 D_He_collect_133 ?_
      refine g_iload C D_He_collect_136 2 rfl ?_
      refine g_dup2 C D_He_collect_138 rfl rfl ?_
      refine g_iald C rfl rfl rfl D_He_collect_139 ?_
      refine g_iconst C D_He_collect_140 ⟨by decide, by decide⟩ ?_
      refine g_iadd C D_He_collect_141 (fun a4 => ?_)
      refine g_iast C rfl rfl D_He_collect_142 (fun s5 => ?_)
      exact wj_He_collect_143 C hrec _ _
def j_He_collect_113 (σ : gM) (v3 : Int) : gO :=
  gl1 (l_He_collect_116 v3) 200 σ 0
set_option maxHeartbeats 4000000 in
theorem wj_He_collect_113 {X : gX} (C : gC gctC prog_4_method_12_code kR2 5 6 151 (some .int) X) (σ : gM) (v3 : Int) : GG gctC X 113 [(0, .inr (.inr 28)), (3, .inl v3)] [] σ (j_He_collect_113 σ v3) := by
  unfold j_He_collect_113
  refine g_iconst C D_He_collect_113 ⟨by decide, by decide⟩ ?_
  refine g_istore (L' := [(4, .inl 0), (0, .inr (.inr 28)), (3, .inl v3)]) C D_He_collect_114 (by decide) rfl ?_
  refine g_sub [1, 2, 0] rfl ?_
  exact wl_He_collect_116 C 200 _ _
def F_He_collect (σ : gM) (v1 : Int) : gO :=
  gpb σ 2 2 1 fun s1 =>
  gk (F_Le_add s1 13 1) fun s2 _ =>
  gk (F_He_startRow s2 v1) fun s3 _ =>
  gk (F_He_follow s3 0) fun s4 a5 =>
  gl2 (l_He_collect_31 (fun s6 => gk (F_He_buryOthers s6) fun s7 a8 =>
  if v1 = 0 then
  (j_He_collect_113 s7 a8)
  else
  (gk (F_He_closeUp s7) fun s9 _ =>
  j_He_collect_113 s9 a8)) v1) 200 s4 a5 0
set_option maxHeartbeats 4000000 in
theorem w_He_collect {X : gX} (C : gC gctC prog_4_method_12_code kR2 5 6 151 (some .int) X) (σ : gM) (v1 : Int) : GG gctC X 0 [(0, .inr (.inr 28)), (1, .inl v1)] [] σ (F_He_collect σ v1) := by
  unfold F_He_collect
  refine g_aload_n C D_He_collect_0 rfl 0 rfl ?_
  refine g_getr (ci := 2) C 10 rfl kI2 rfl (by decide) rfl rfl wf_2_40 D_He_collect_1 ?_
  refine g_iconst C D_He_collect_4 ⟨by decide, by decide⟩ ?_
  refine g_putZ (ci := 3) C 2 (jz := 2) rfl rfl kI3 kO3 kN3 rfl (by decide) rfl rfl wf_2_78 D_He_collect_5 (fun s1 => ?_)
  refine g_aload_n C D_He_collect_8 rfl 0 rfl ?_
  refine g_getr (ci := 2) C 10 rfl kI2 rfl (by decide) rfl rfl wf_2_40 D_He_collect_9 ?_
  refine g_bipush C D_He_collect_12 (by decide) ⟨by decide, by decide⟩ ?_
  refine g_iconst C D_He_collect_14 ⟨by decide, by decide⟩ ?_
  refine g_callVv (ci := 3) C [.inl 13, .inl 1] [] rfl rfl (fun _ h1 h2 h3 => c_Le_add h1 h2 h3) rfl rfl wc_2_59 (by decide) (Nat.le_of_ble_eq_true rfl) D_He_collect_15 (fun s2 _ => ?_)
  refine g_aload_n C D_He_collect_18 rfl 0 rfl ?_
  refine g_iload_n C D_He_collect_19 rfl 1 rfl ?_
  refine g_callVv (ci := 2) C [.inl v1] [] rfl rfl (fun _ h1 h2 h3 => c_He_startRow h1 h2 h3) rfl rfl wc_2_82 (by decide) (Nat.le_of_ble_eq_true rfl) D_He_collect_20 (fun s3 _ => ?_)
  refine g_aload_n C D_He_collect_23 rfl 0 rfl ?_
  refine g_iconst C D_He_collect_24 ⟨by decide, by decide⟩ ?_
  refine g_callVi (ci := 2) C [.inl 0] [] (Or.inl rfl) rfl (fun _ h1 h2 h3 => c_He_follow h1 h2 h3) rfl rfl wc_2_86 (by decide) (Nat.le_of_ble_eq_true rfl) D_He_collect_25 (fun s4 a5 => ?_)
  refine g_istore_n (L' := [(2, .inl a5), (0, .inr (.inr 28)), (1, .inl v1)]) C D_He_collect_28 rfl (by decide) rfl ?_
  refine g_iconst C D_He_collect_29 ⟨by decide, by decide⟩ ?_
  refine g_istore_n (L' := [(3, .inl 0), (2, .inl a5), (0, .inr (.inr 28)), (1, .inl v1)]) C D_He_collect_30 rfl (by decide) rfl ?_
  refine g_sub [2, 3, 1, 0] rfl ?_
  exact wl_He_collect_31 C (fun s6 => by
      refine g_aload_n C D_He_collect_100 rfl 0 rfl ?_
      refine g_callVi (ci := 2) C [] [] (Or.inl rfl) rfl (fun _ h1 h2 h3 => c_He_buryOthers h1 h2 h3) rfl rfl wc_2_92 (by decide) (Nat.le_of_ble_eq_true rfl) D_He_collect_101 (fun s7 a8 => ?_)
      refine g_istore_n (L' := [(3, .inl a8), (0, .inr (.inr 28)), (1, .inl v1)]) C D_He_collect_104 rfl (by decide) rfl ?_
      refine g_iload_n C D_He_collect_105 rfl 2 rfl ?_
      refine g_if_eq (tgt := 113) C D_He_collect_106 (by decide) ?_ ?_
      · refine g_sub [1, 0] rfl ?_
        exact wj_He_collect_113 C _ _
      · refine g_aload_n C D_He_collect_109 rfl 1 rfl ?_
        refine g_callVv (ci := 2) C [] [] rfl rfl (fun _ h1 h2 h3 => c_He_closeUp h1 h2 h3) rfl rfl wc_2_96 (by decide) (Nat.le_of_ble_eq_true rfl) D_He_collect_110 (fun s9 _ => ?_)
        refine g_sub [1, 0] rfl ?_
        exact wj_He_collect_113 C _ _) 200 _ _ _
theorem c_He_collect {σ : gM} {v1 : Int} {r : gR} (ho : F_He_collect σ v1 = some r) (hok : gOk [.inr (.inr 28), .inl v1]) (hin : gIn gctC σ) : gCt gctC Y_He_collect prog_4_method_12_code 5 (some .int) 6 151 [.inr (.inr 28), .inl v1] σ r := g_entry (by decide) rfl (Nat.le_of_ble_eq_true rfl) ho hok hin (fun X C => w_He_collect C σ v1)
theorem D_Me_resize_0 : decode prog_6_method_8_code 0 = .ok (.iload_n 1, 1) := by decide +kernel
theorem D_Me_resize_1 : decode prog_6_method_8_code 1 = .ok (.istore_n 2, 1) := by decide +kernel
theorem D_Me_resize_2 : decode prog_6_method_8_code 2 = .ok (.iload_n 2, 1) := by decide +kernel
theorem D_Me_resize_3 : decode prog_6_method_8_code 3 = .ok (.bipush 16, 2) := by decide +kernel
theorem D_Me_resize_5 : decode prog_6_method_8_code 5 = .ok (.if_icmp .ge 26, 3) := by decide +kernel
theorem D_Me_resize_8 : decode prog_6_method_8_code 8 = .ok (.aload_n 0, 1) := by decide +kernel
theorem D_Me_resize_9 : decode prog_6_method_8_code 9 = .ok (.getfield 30, 3) := by decide +kernel
theorem D_Me_resize_12 : decode prog_6_method_8_code 12 = .ok (.iload_n 2, 1) := by decide +kernel
theorem D_Me_resize_13 : decode prog_6_method_8_code 13 = .ok (.iaload, 1) := by decide +kernel
theorem D_Me_resize_14 : decode prog_6_method_8_code 14 = .ok (.bipush (-4), 2) := by decide +kernel
theorem D_Me_resize_16 : decode prog_6_method_8_code 16 = .ok (.if_icmp .eq 9, 3) := by decide +kernel
theorem D_Me_resize_19 : decode prog_6_method_8_code 19 = .ok (.aload_n 0, 1) := by decide +kernel
theorem D_Me_resize_20 : decode prog_6_method_8_code 20 = .ok (.iload_n 2, 1) := by decide +kernel
theorem D_Me_resize_21 : decode prog_6_method_8_code 21 = .ok (.iconst (-1), 1) := by decide +kernel
theorem D_Me_resize_22 : decode prog_6_method_8_code 22 = .ok (.invokevirtual 76, 3) := by decide +kernel
theorem D_Me_resize_25 : decode prog_6_method_8_code 25 = .ok (.iinc 2 1, 3) := by decide +kernel
theorem D_Me_resize_28 : decode prog_6_method_8_code 28 = .ok (.goto (-26), 3) := by decide +kernel
theorem D_Me_resize_31 : decode prog_6_method_8_code 31 = .ok (.aload_n 0, 1) := by decide +kernel
theorem D_Me_resize_32 : decode prog_6_method_8_code 32 = .ok (.iload_n 1, 1) := by decide +kernel
theorem D_Me_resize_33 : decode prog_6_method_8_code 33 = .ok (.putfield 9, 3) := by decide +kernel
theorem D_Me_resize_36 : decode prog_6_method_8_code 36 = .ok (.aload_n 0, 1) := by decide +kernel
theorem D_Me_resize_37 : decode prog_6_method_8_code 37 = .ok (.iconst 0, 1) := by decide +kernel
theorem D_Me_resize_38 : decode prog_6_method_8_code 38 = .ok (.putfield 93, 3) := by decide +kernel
theorem D_Me_resize_41 : decode prog_6_method_8_code 41 = .ok (.return_, 1) := by decide +kernel
def j_Me_resize_25 (rec : gM → Int → gO) (σ : gM) (p1 v2 : Int) : gO :=
  ga (v2 + 1) fun a1 =>
  rec σ a1
set_option maxHeartbeats 4000000 in
theorem wj_Me_resize_25 {X : gX} (C : gC gctC prog_6_method_8_code kR4 3 4 100 (none) X) {p1 : Int} {rec : gM → Int → gO} (hrec : ∀ (σ : gM) (a0 : Int), GG gctC X 2 [(0, .inr (.inr 17)), (1, .inl p1), (2, .inl a0)] [] σ (rec σ a0)) (σ : gM) (v2 : Int) : GG gctC X 25 [(0, .inr (.inr 17)), (1, .inl p1), (2, .inl v2)] [] σ (j_Me_resize_25 rec σ p1 v2) := by
  unfold j_Me_resize_25
  refine g_iinc (t := 2) (L' := fun z => [(2, .inl z), (0, .inr (.inr 17)), (1, .inl p1)]) C D_Me_resize_25 rfl (by decide) (fun _ => rfl) (fun a1 => ?_)
  refine g_goto (tgt := 2) C D_Me_resize_28 (by decide) ?_
  refine g_sub [1, 2, 0] rfl ?_
  exact hrec _ _
def l_Me_resize_2 (p1 : Int) (rec : gM → Int → gO) (σ : gM) (v2 : Int) : gO :=
  if v2 < 16 then
  (gi v2 16 <|
  if (σ 23 v2) = (-4) then
  (j_Me_resize_25 rec σ p1 v2)
  else
  (gk (F_Me_leave σ v2 (-1)) fun s3 _ =>
  j_Me_resize_25 rec s3 p1 v2))
  else
  (gp σ 17 0 p1 fun s1 =>
  gp s1 17 4 0 fun s2 =>
  some (s2, 0))
set_option maxHeartbeats 4000000 in
theorem wl_Me_resize_2 {X : gX} (C : gC gctC prog_6_method_8_code kR4 3 4 100 (none) X) {p1 : Int} : ∀ (n : Nat) (σ : gM) (a0 : Int), GG gctC X 2 [(0, .inr (.inr 17)), (1, .inl p1), (2, .inl a0)] [] σ (gl1 (l_Me_resize_2 p1) n σ a0) := by
  refine gl1_run (P := fun σ a0 o => GG gctC X 2 [(0, .inr (.inr 17)), (1, .inl p1), (2, .inl a0)] [] σ o) (fun _ _ => g_none) (fun rec hrec σ v2 => ?_)
  unfold l_Me_resize_2
  refine g_iload_n C D_Me_resize_2 rfl 2 rfl ?_
  refine g_bipush C D_Me_resize_3 (by decide) ⟨by decide, by decide⟩ ?_
  refine g_icmp_ge (tgt := 31) C D_Me_resize_5 (by decide) ?_ ?_
  · refine g_aload_n C D_Me_resize_31 rfl 0 rfl ?_
    refine g_iload_n C D_Me_resize_32 rfl 1 rfl ?_
    refine g_putI (ci := 4) C 0 (jz := 0) rfl rfl kI4 kO4 kN4 rfl (by decide) rfl rfl wf_4_9 D_Me_resize_33 (fun s1 => ?_)
    refine g_aload_n C D_Me_resize_36 rfl 0 rfl ?_
    refine g_iconst C D_Me_resize_37 ⟨by decide, by decide⟩ ?_
    refine g_putI (ci := 4) C 4 (jz := 4) rfl rfl kI4 kO4 kN4 rfl (by decide) rfl rfl wf_4_93 D_Me_resize_38 (fun s2 => ?_)
    exact g_vret C D_Me_resize_41
  · refine g_aload_n C D_Me_resize_8 rfl 0 rfl ?_
    refine g_getr (ci := 4) C 6 rfl kI4 rfl (by decide) rfl rfl wf_4_30 D_Me_resize_9 ?_
    refine g_iload_n C D_Me_resize_12 rfl 2 rfl ?_
    refine g_iald C rfl rfl rfl D_Me_resize_13 ?_
    refine g_bipush C D_Me_resize_14 (by decide) ⟨by decide, by decide⟩ ?_
    refine g_icmp_eq (tgt := 25) C D_Me_resize_16 (by decide) ?_ ?_
    · exact wj_Me_resize_25 C hrec _ _
    · refine g_aload_n C D_Me_resize_19 rfl 0 rfl ?_
      refine g_iload_n C D_Me_resize_20 rfl 2 rfl ?_
      refine g_iconst C D_Me_resize_21 ⟨by decide, by decide⟩ ?_
      refine g_callVv (ci := 4) C [.inl v2, .inl (-1)] [] rfl rfl (fun _ h1 h2 h3 => c_Me_leave h1 h2 h3) rfl rfl wc_4_76 (by decide) (Nat.le_of_ble_eq_true rfl) D_Me_resize_22 (fun s3 _ => ?_)
      exact wj_Me_resize_25 C hrec _ _
def F_Me_resize (σ : gM) (v1 : Int) : gO :=
  gl1 (l_Me_resize_2 v1) 200 σ v1
set_option maxHeartbeats 4000000 in
theorem w_Me_resize {X : gX} (C : gC gctC prog_6_method_8_code kR4 3 4 100 (none) X) (σ : gM) (v1 : Int) : GG gctC X 0 [(0, .inr (.inr 17)), (1, .inl v1)] [] σ (F_Me_resize σ v1) := by
  unfold F_Me_resize
  refine g_iload_n C D_Me_resize_0 rfl 1 rfl ?_
  refine g_istore_n (L' := [(2, .inl v1), (0, .inr (.inr 17)), (1, .inl v1)]) C D_Me_resize_1 rfl (by decide) rfl ?_
  refine g_sub [1, 2, 0] rfl ?_
  exact wl_Me_resize_2 C 200 _ _
theorem c_Me_resize {σ : gM} {v1 : Int} {r : gR} (ho : F_Me_resize σ v1 = some r) (hok : gOk [.inr (.inr 17), .inl v1]) (hin : gIn gctC σ) : gCt gctC Y_Me_resize prog_6_method_8_code 3 (none) 4 100 [.inr (.inr 17), .inl v1] σ r := g_entry (by decide) rfl (Nat.le_of_ble_eq_true rfl) ho hok hin (fun X C => w_Me_resize C σ v1)
theorem D_Ru_nextUse_0 : decode prog_7_method_5_code 0 = .ok (.iload_n 2, 1) := by decide +kernel
theorem D_Ru_nextUse_1 : decode prog_7_method_5_code 1 = .ok (.istore_n 3, 1) := by decide +kernel
theorem D_Ru_nextUse_2 : decode prog_7_method_5_code 2 = .ok (.iload_n 3, 1) := by decide +kernel
theorem D_Ru_nextUse_3 : decode prog_7_method_5_code 3 = .ok (.aload_n 0, 1) := by decide +kernel
theorem D_Ru_nextUse_4 : decode prog_7_method_5_code 4 = .ok (.getfield 22, 3) := by decide +kernel
theorem D_Ru_nextUse_7 : decode prog_7_method_5_code 7 = .ok (.if_icmp .ge 20, 3) := by decide +kernel
theorem D_Ru_nextUse_10 : decode prog_7_method_5_code 10 = .ok (.aload_n 0, 1) := by decide +kernel
theorem D_Ru_nextUse_11 : decode prog_7_method_5_code 11 = .ok (.iload_n 3, 1) := by decide +kernel
theorem D_Ru_nextUse_12 : decode prog_7_method_5_code 12 = .ok (.invokevirtual 25, 3) := by decide +kernel
theorem D_Ru_nextUse_15 : decode prog_7_method_5_code 15 = .ok (.iload_n 1, 1) := by decide +kernel
theorem D_Ru_nextUse_16 : decode prog_7_method_5_code 16 = .ok (.if_icmp .ne 5, 3) := by decide +kernel
theorem D_Ru_nextUse_19 : decode prog_7_method_5_code 19 = .ok (.iload_n 3, 1) := by decide +kernel
theorem D_Ru_nextUse_20 : decode prog_7_method_5_code 20 = .ok (.ireturn, 1) := by decide +kernel
theorem D_Ru_nextUse_21 : decode prog_7_method_5_code 21 = .ok (.iinc 3 1, 3) := by decide +kernel
theorem D_Ru_nextUse_24 : decode prog_7_method_5_code 24 = .ok (.goto (-22), 3) := by decide +kernel
theorem D_Ru_nextUse_27 : decode prog_7_method_5_code 27 = .ok (.aload_n 0, 1) := by decide +kernel
theorem D_Ru_nextUse_28 : decode prog_7_method_5_code 28 = .ok (.getfield 22, 3) := by decide +kernel
theorem D_Ru_nextUse_31 : decode prog_7_method_5_code 31 = .ok (.ireturn, 1) := by decide +kernel
def l_Ru_nextUse_2 (p1 : Int) (rec : gM → Int → gO) (σ : gM) (v3 : Int) : gO :=
  if v3 < (σ 20 2) then
  (gk (F_Ru_pageAt σ v3) fun s1 a2 =>
  if a2 = p1 then
  (some (s1, v3))
  else
  (ga (v3 + 1) fun a3 =>
  rec s1 a3))
  else
  (some (σ, (σ 20 2)))
set_option maxHeartbeats 4000000 in
theorem wl_Ru_nextUse_2 {X : gX} (C : gC gctC prog_7_method_5_code kR5 4 1 21 (some .int) X) {p1 : Int} : ∀ (n : Nat) (σ : gM) (a0 : Int), GG gctC X 2 [(0, .inr (.inr 20)), (1, .inl p1), (3, .inl a0)] [] σ (gl1 (l_Ru_nextUse_2 p1) n σ a0) := by
  refine gl1_run (P := fun σ a0 o => GG gctC X 2 [(0, .inr (.inr 20)), (1, .inl p1), (3, .inl a0)] [] σ o) (fun _ _ => g_none) (fun rec hrec σ v3 => ?_)
  unfold l_Ru_nextUse_2
  refine g_iload_n C D_Ru_nextUse_2 rfl 2 rfl ?_
  refine g_aload_n C D_Ru_nextUse_3 rfl 0 rfl ?_
  refine g_get (ci := 5) C 2 (jz := 2) rfl rfl kI5 rfl (by decide) rfl rfl wf_5_22 rfl D_Ru_nextUse_4 ?_
  refine g_icmp_ge (tgt := 27) C D_Ru_nextUse_7 (by decide) ?_ ?_
  · refine g_aload_n C D_Ru_nextUse_27 rfl 0 rfl ?_
    refine g_get (ci := 5) C 2 (jz := 2) rfl rfl kI5 rfl (by decide) rfl rfl wf_5_22 rfl D_Ru_nextUse_28 ?_
    exact g_iret C D_Ru_nextUse_31
  · refine g_aload_n C D_Ru_nextUse_10 rfl 0 rfl ?_
    refine g_iload_n C D_Ru_nextUse_11 rfl 2 rfl ?_
    refine g_callVi (ci := 5) C [.inl v3] [] (Or.inl rfl) rfl (fun _ h1 h2 h3 => c_Ru_pageAt h1 h2 h3) rfl rfl wc_5_25 (by decide) (Nat.le_of_ble_eq_true rfl) D_Ru_nextUse_12 (fun s1 a2 => ?_)
    refine g_iload_n C D_Ru_nextUse_15 rfl 1 rfl ?_
    refine g_icmp_ne (tgt := 21) C D_Ru_nextUse_16 (by decide) ?_ ?_
    · refine g_iinc (t := 2) (L' := fun z => [(3, .inl z), (0, .inr (.inr 20)), (1, .inl p1)]) C D_Ru_nextUse_21 rfl (by decide) (fun _ => rfl) (fun a3 => ?_)
      refine g_goto (tgt := 2) C D_Ru_nextUse_24 (by decide) ?_
      refine g_sub [1, 2, 0] rfl ?_
      exact hrec _ _
    · refine g_iload_n C D_Ru_nextUse_19 rfl 2 rfl ?_
      exact g_iret C D_Ru_nextUse_20
def F_Ru_nextUse (σ : gM) (v1 v2 : Int) : gO :=
  gl1 (l_Ru_nextUse_2 v1) 200 σ v2
set_option maxHeartbeats 4000000 in
theorem w_Ru_nextUse {X : gX} (C : gC gctC prog_7_method_5_code kR5 4 1 21 (some .int) X) (σ : gM) (v1 v2 : Int) : GG gctC X 0 [(0, .inr (.inr 20)), (1, .inl v1), (2, .inl v2)] [] σ (F_Ru_nextUse σ v1 v2) := by
  unfold F_Ru_nextUse
  refine g_iload_n C D_Ru_nextUse_0 rfl 2 rfl ?_
  refine g_istore_n (L' := [(3, .inl v2), (0, .inr (.inr 20)), (1, .inl v1), (2, .inl v2)]) C D_Ru_nextUse_1 rfl (by decide) rfl ?_
  refine g_sub [1, 2, 0] rfl ?_
  exact wl_Ru_nextUse_2 C 200 _ _
theorem c_Ru_nextUse {σ : gM} {v1 v2 : Int} {r : gR} (ho : F_Ru_nextUse σ v1 v2 = some r) (hok : gOk [.inr (.inr 20), .inl v1, .inl v2]) (hin : gIn gctC σ) : gCt gctC Y_Ru_nextUse prog_7_method_5_code 4 (some .int) 1 21 [.inr (.inr 20), .inl v1, .inl v2] σ r := g_entry (by decide) rfl (Nat.le_of_ble_eq_true rfl) ho hok hin (fun X C => w_Ru_nextUse C σ v1 v2)
theorem D_Ru_furthest_0 : decode prog_7_method_6_code 0 = .ok (.iconst 0, 1) := by decide +kernel
theorem D_Ru_furthest_1 : decode prog_7_method_6_code 1 = .ok (.istore_n 1, 1) := by decide +kernel
theorem D_Ru_furthest_2 : decode prog_7_method_6_code 2 = .ok (.iconst 1, 1) := by decide +kernel
theorem D_Ru_furthest_3 : decode prog_7_method_6_code 3 = .ok (.istore_n 2, 1) := by decide +kernel
theorem D_Ru_furthest_4 : decode prog_7_method_6_code 4 = .ok (.iload_n 2, 1) := by decide +kernel
theorem D_Ru_furthest_5 : decode prog_7_method_6_code 5 = .ok (.bipush 32, 2) := by decide +kernel
theorem D_Ru_furthest_7 : decode prog_7_method_6_code 7 = .ok (.if_icmp .ge 26, 3) := by decide +kernel
theorem D_Ru_furthest_10 : decode prog_7_method_6_code 10 = .ok (.aload_n 0, 1) := by decide +kernel
theorem D_Ru_furthest_11 : decode prog_7_method_6_code 11 = .ok (.getfield 15, 3) := by decide +kernel
theorem D_Ru_furthest_14 : decode prog_7_method_6_code 14 = .ok (.iload_n 2, 1) := by decide +kernel
theorem D_Ru_furthest_15 : decode prog_7_method_6_code 15 = .ok (.iaload, 1) := by decide +kernel
theorem D_Ru_furthest_16 : decode prog_7_method_6_code 16 = .ok (.aload_n 0, 1) := by decide +kernel
theorem D_Ru_furthest_17 : decode prog_7_method_6_code 17 = .ok (.getfield 15, 3) := by decide +kernel
theorem D_Ru_furthest_20 : decode prog_7_method_6_code 20 = .ok (.iload_n 1, 1) := by decide +kernel
theorem D_Ru_furthest_21 : decode prog_7_method_6_code 21 = .ok (.iaload, 1) := by decide +kernel
theorem D_Ru_furthest_22 : decode prog_7_method_6_code 22 = .ok (.if_icmp .le 5, 3) := by decide +kernel
theorem D_Ru_furthest_25 : decode prog_7_method_6_code 25 = .ok (.iload_n 2, 1) := by decide +kernel
theorem D_Ru_furthest_26 : decode prog_7_method_6_code 26 = .ok (.istore_n 1, 1) := by decide +kernel
theorem D_Ru_furthest_27 : decode prog_7_method_6_code 27 = .ok (.iinc 2 1, 3) := by decide +kernel
theorem D_Ru_furthest_30 : decode prog_7_method_6_code 30 = .ok (.goto (-26), 3) := by decide +kernel
theorem D_Ru_furthest_33 : decode prog_7_method_6_code 33 = .ok (.iload_n 1, 1) := by decide +kernel
theorem D_Ru_furthest_34 : decode prog_7_method_6_code 34 = .ok (.ireturn, 1) := by decide +kernel
def j_Ru_furthest_27 (rec : gM → Int → Int → gO) (σ : gM) (v1 v2 : Int) : gO :=
  ga (v2 + 1) fun a1 =>
  rec σ v1 a1
set_option maxHeartbeats 4000000 in
theorem wj_Ru_furthest_27 {X : gX} (C : gC gctC prog_7_method_6_code kR5 3 0 0 (some .int) X) {rec : gM → Int → Int → gO} (hrec : ∀ (σ : gM) (a0 a1 : Int), GG gctC X 4 [(0, .inr (.inr 20)), (1, .inl a0), (2, .inl a1)] [] σ (rec σ a0 a1)) (σ : gM) (v1 v2 : Int) : GG gctC X 27 [(0, .inr (.inr 20)), (1, .inl v1), (2, .inl v2)] [] σ (j_Ru_furthest_27 rec σ v1 v2) := by
  unfold j_Ru_furthest_27
  refine g_iinc (t := 2) (L' := fun z => [(2, .inl z), (0, .inr (.inr 20)), (1, .inl v1)]) C D_Ru_furthest_27 rfl (by decide) (fun _ => rfl) (fun a1 => ?_)
  refine g_goto (tgt := 4) C D_Ru_furthest_30 (by decide) ?_
  refine g_sub [1, 2, 0] rfl ?_
  exact hrec _ _ _
def l_Ru_furthest_4 (rec : gM → Int → Int → gO) (σ : gM) (v1 v2 : Int) : gO :=
  if v2 < 32 then
  (gi v2 32 <|
  gi v1 32 <|
  if (σ 22 v1) < (σ 22 v2) then
  (j_Ru_furthest_27 rec σ v2 v2)
  else
  (j_Ru_furthest_27 rec σ v1 v2))
  else
  (some (σ, v1))
set_option maxHeartbeats 4000000 in
theorem wl_Ru_furthest_4 {X : gX} (C : gC gctC prog_7_method_6_code kR5 3 0 0 (some .int) X) : ∀ (n : Nat) (σ : gM) (a0 a1 : Int), GG gctC X 4 [(0, .inr (.inr 20)), (1, .inl a0), (2, .inl a1)] [] σ (gl2 (l_Ru_furthest_4) n σ a0 a1) := by
  refine gl2_run (P := fun σ a0 a1 o => GG gctC X 4 [(0, .inr (.inr 20)), (1, .inl a0), (2, .inl a1)] [] σ o) (fun _ _ _ => g_none) (fun rec hrec σ v1 v2 => ?_)
  unfold l_Ru_furthest_4
  refine g_iload_n C D_Ru_furthest_4 rfl 2 rfl ?_
  refine g_bipush C D_Ru_furthest_5 (by decide) ⟨by decide, by decide⟩ ?_
  refine g_icmp_ge (tgt := 33) C D_Ru_furthest_7 (by decide) ?_ ?_
  · refine g_iload_n C D_Ru_furthest_33 rfl 1 rfl ?_
    exact g_iret C D_Ru_furthest_34
  · refine g_aload_n C D_Ru_furthest_10 rfl 0 rfl ?_
    refine g_getr (ci := 5) C 3 rfl kI5 rfl (by decide) rfl rfl wf_5_15 D_Ru_furthest_11 ?_
    refine g_iload_n C D_Ru_furthest_14 rfl 2 rfl ?_
    refine g_iald C rfl rfl rfl D_Ru_furthest_15 ?_
    refine g_aload_n C D_Ru_furthest_16 rfl 0 rfl ?_
    refine g_getr (ci := 5) C 3 rfl kI5 rfl (by decide) rfl rfl wf_5_15 D_Ru_furthest_17 ?_
    refine g_iload_n C D_Ru_furthest_20 rfl 1 rfl ?_
    refine g_iald C rfl rfl rfl D_Ru_furthest_21 ?_
    refine g_icmp_le (tgt := 27) C D_Ru_furthest_22 (by decide) ?_ ?_
    · exact wj_Ru_furthest_27 C hrec _ _ _
    · refine g_iload_n C D_Ru_furthest_25 rfl 2 rfl ?_
      refine g_istore_n (L' := [(1, .inl v2), (0, .inr (.inr 20)), (2, .inl v2)]) C D_Ru_furthest_26 rfl (by decide) rfl ?_
      refine g_sub [1, 0, 2] rfl ?_
      exact wj_Ru_furthest_27 C hrec _ _ _
def F_Ru_furthest (σ : gM) : gO :=
  gl2 (l_Ru_furthest_4) 200 σ 0 1
set_option maxHeartbeats 4000000 in
theorem w_Ru_furthest {X : gX} (C : gC gctC prog_7_method_6_code kR5 3 0 0 (some .int) X) (σ : gM) : GG gctC X 0 [(0, .inr (.inr 20))] [] σ (F_Ru_furthest σ) := by
  unfold F_Ru_furthest
  refine g_iconst C D_Ru_furthest_0 ⟨by decide, by decide⟩ ?_
  refine g_istore_n (L' := [(1, .inl 0), (0, .inr (.inr 20))]) C D_Ru_furthest_1 rfl (by decide) rfl ?_
  refine g_iconst C D_Ru_furthest_2 ⟨by decide, by decide⟩ ?_
  refine g_istore_n (L' := [(2, .inl 1), (1, .inl 0), (0, .inr (.inr 20))]) C D_Ru_furthest_3 rfl (by decide) rfl ?_
  refine g_sub [2, 1, 0] rfl ?_
  exact wl_Ru_furthest_4 C 200 _ _ _
theorem c_Ru_furthest {σ : gM} {r : gR} (ho : F_Ru_furthest σ = some r) (hok : gOk [.inr (.inr 20)]) (hin : gIn gctC σ) : gCt gctC Y_Ru_furthest prog_7_method_6_code 3 (some .int) 0 0 [.inr (.inr 20)] σ r := g_entry (by decide) rfl (Nat.le_of_ble_eq_true rfl) ho hok hin (fun X C => w_Ru_furthest C σ)
theorem D_Ru_fewestFaults_0 : decode prog_7_method_4_code 0 = .ok (.iconst 0, 1) := by decide +kernel
theorem D_Ru_fewestFaults_1 : decode prog_7_method_4_code 1 = .ok (.istore_n 2, 1) := by decide +kernel
theorem D_Ru_fewestFaults_2 : decode prog_7_method_4_code 2 = .ok (.iload_n 2, 1) := by decide +kernel
theorem D_Ru_fewestFaults_3 : decode prog_7_method_4_code 3 = .ok (.bipush 32, 2) := by decide +kernel
theorem D_Ru_fewestFaults_5 : decode prog_7_method_4_code 5 = .ok (.if_icmp .ge 16, 3) := by decide +kernel
theorem D_Ru_fewestFaults_8 : decode prog_7_method_4_code 8 = .ok (.aload_n 0, 1) := by decide +kernel
theorem D_Ru_fewestFaults_9 : decode prog_7_method_4_code 9 = .ok (.getfield 15, 3) := by decide +kernel
theorem D_Ru_fewestFaults_12 : decode prog_7_method_4_code 12 = .ok (.iload_n 2, 1) := by decide +kernel
theorem D_Ru_fewestFaults_13 : decode prog_7_method_4_code 13 = .ok (.iconst (-1), 1) := by decide +kernel
theorem D_Ru_fewestFaults_14 : decode prog_7_method_4_code 14 = .ok (.iastore, 1) := by decide +kernel
theorem D_Ru_fewestFaults_15 : decode prog_7_method_4_code 15 = .ok (.iinc 2 1, 3) := by decide +kernel
theorem D_Ru_fewestFaults_18 : decode prog_7_method_4_code 18 = .ok (.goto (-16), 3) := by decide +kernel
theorem D_Ru_fewestFaults_21 : decode prog_7_method_4_code 21 = .ok (.iconst 0, 1) := by decide +kernel
theorem D_Ru_fewestFaults_22 : decode prog_7_method_4_code 22 = .ok (.istore_n 2, 1) := by decide +kernel
theorem D_Ru_fewestFaults_23 : decode prog_7_method_4_code 23 = .ok (.iconst 0, 1) := by decide +kernel
theorem D_Ru_fewestFaults_24 : decode prog_7_method_4_code 24 = .ok (.istore_n 3, 1) := by decide +kernel
theorem D_Ru_fewestFaults_25 : decode prog_7_method_4_code 25 = .ok (.iconst 0, 1) := by decide +kernel
theorem D_Ru_fewestFaults_26 : decode prog_7_method_4_code 26 = .ok (.istore 4, 2) := by decide +kernel
theorem D_Ru_fewestFaults_28 : decode prog_7_method_4_code 28 = .ok (.iload 4, 2) := by decide +kernel
theorem D_Ru_fewestFaults_30 : decode prog_7_method_4_code 30 = .ok (.aload_n 0, 1) := by decide +kernel
theorem D_Ru_fewestFaults_31 : decode prog_7_method_4_code 31 = .ok (.getfield 22, 3) := by decide +kernel
theorem D_Ru_fewestFaults_34 : decode prog_7_method_4_code 34 = .ok (.if_icmp .ge 69, 3) := by decide +kernel
theorem D_Ru_fewestFaults_37 : decode prog_7_method_4_code 37 = .ok (.aload_n 0, 1) := by decide +kernel
theorem D_Ru_fewestFaults_38 : decode prog_7_method_4_code 38 = .ok (.iload 4, 2) := by decide +kernel
theorem D_Ru_fewestFaults_40 : decode prog_7_method_4_code 40 = .ok (.invokevirtual 25, 3) := by decide +kernel
theorem D_Ru_fewestFaults_43 : decode prog_7_method_4_code 43 = .ok (.istore 5, 2) := by decide +kernel
theorem D_Ru_fewestFaults_45 : decode prog_7_method_4_code 45 = .ok (.aload_n 0, 1) := by decide +kernel
theorem D_Ru_fewestFaults_46 : decode prog_7_method_4_code 46 = .ok (.getfield 15, 3) := by decide +kernel
theorem D_Ru_fewestFaults_49 : decode prog_7_method_4_code 49 = .ok (.iload 5, 2) := by decide +kernel
theorem D_Ru_fewestFaults_51 : decode prog_7_method_4_code 51 = .ok (.iaload, 1) := by decide +kernel
theorem D_Ru_fewestFaults_52 : decode prog_7_method_4_code 52 = .ok (.iconst (-1), 1) := by decide +kernel
theorem D_Ru_fewestFaults_53 : decode prog_7_method_4_code 53 = .ok (.if_icmp .ne 27, 3) := by decide +kernel
theorem D_Ru_fewestFaults_56 : decode prog_7_method_4_code 56 = .ok (.iinc 2 1, 3) := by decide +kernel
theorem D_Ru_fewestFaults_59 : decode prog_7_method_4_code 59 = .ok (.iload_n 3, 1) := by decide +kernel
theorem D_Ru_fewestFaults_60 : decode prog_7_method_4_code 60 = .ok (.iload_n 1, 1) := by decide +kernel
theorem D_Ru_fewestFaults_61 : decode prog_7_method_4_code 61 = .ok (.if_icmp .ge 9, 3) := by decide +kernel
theorem D_Ru_fewestFaults_64 : decode prog_7_method_4_code 64 = .ok (.iinc 3 1, 3) := by decide +kernel
theorem D_Ru_fewestFaults_67 : decode prog_7_method_4_code 67 = .ok (.goto 13, 3) := by decide +kernel
theorem D_Ru_fewestFaults_70 : decode prog_7_method_4_code 70 = .ok (.aload_n 0, 1) := by decide +kernel
theorem D_Ru_fewestFaults_71 : decode prog_7_method_4_code 71 = .ok (.getfield 15, 3) := by decide +kernel
theorem D_Ru_fewestFaults_74 : decode prog_7_method_4_code 74 = .ok (.aload_n 0, 1) := by decide +kernel
theorem D_Ru_fewestFaults_75 : decode prog_7_method_4_code 75 = .ok (.invokevirtual 29, 3) := by decide +kernel
theorem D_Ru_fewestFaults_78 : decode prog_7_method_4_code 78 = .ok (.iconst (-1), 1) := by decide +kernel
theorem D_Ru_fewestFaults_79 : decode prog_7_method_4_code 79 = .ok (.iastore, 1) := by decide +kernel
theorem D_Ru_fewestFaults_80 : decode prog_7_method_4_code 80 = .ok (.aload_n 0, 1) := by decide +kernel
theorem D_Ru_fewestFaults_81 : decode prog_7_method_4_code 81 = .ok (.getfield 15, 3) := by decide +kernel
theorem D_Ru_fewestFaults_84 : decode prog_7_method_4_code 84 = .ok (.iload 5, 2) := by decide +kernel
theorem D_Ru_fewestFaults_86 : decode prog_7_method_4_code 86 = .ok (.aload_n 0, 1) := by decide +kernel
theorem D_Ru_fewestFaults_87 : decode prog_7_method_4_code 87 = .ok (.iload 5, 2) := by decide +kernel
theorem D_Ru_fewestFaults_89 : decode prog_7_method_4_code 89 = .ok (.iload 4, 2) := by decide +kernel
theorem D_Ru_fewestFaults_91 : decode prog_7_method_4_code 91 = .ok (.iconst 1, 1) := by decide +kernel
theorem D_Ru_fewestFaults_92 : decode prog_7_method_4_code 92 = .ok (.iadd, 1) := by decide +kernel
theorem D_Ru_fewestFaults_93 : decode prog_7_method_4_code 93 = .ok (.invokevirtual 33, 3) := by decide +kernel
theorem D_Ru_fewestFaults_96 : decode prog_7_method_4_code 96 = .ok (.iastore, 1) := by decide +kernel
theorem D_Ru_fewestFaults_97 : decode prog_7_method_4_code 97 = .ok (.iinc 4 1, 3) := by decide +kernel
theorem D_Ru_fewestFaults_100 : decode prog_7_method_4_code 100 = .ok (.goto (-72), 3) := by decide +kernel
theorem D_Ru_fewestFaults_103 : decode prog_7_method_4_code 103 = .ok (.iload_n 2, 1) := by decide +kernel
theorem D_Ru_fewestFaults_104 : decode prog_7_method_4_code 104 = .ok (.ireturn, 1) := by decide +kernel
def l_Ru_fewestFaults_2 (k1 : gM → gO) (p1 : Int) (rec : gM → Int → gO) (σ : gM) (v2 : Int) : gO :=
  if v2 < 32 then
  (gw σ 22 32 v2 (-1) fun s1 =>
  ga (v2 + 1) fun a2 =>
  rec s1 a2)
  else
  (k1 σ)
set_option maxHeartbeats 4000000 in
theorem wl_Ru_fewestFaults_2 {X : gX} (C : gC gctC prog_7_method_4_code kR5 6 2 44 (some .int) X) {p1 : Int} {k1 : gM → gO} (hk1 : ∀ (σ : gM), GG gctC X 21 [(0, .inr (.inr 20)), (1, .inl p1)] [] σ (k1 σ)) : ∀ (n : Nat) (σ : gM) (a0 : Int), GG gctC X 2 [(0, .inr (.inr 20)), (1, .inl p1), (2, .inl a0)] [] σ (gl1 (l_Ru_fewestFaults_2 k1 p1) n σ a0) := by
  refine gl1_run (P := fun σ a0 o => GG gctC X 2 [(0, .inr (.inr 20)), (1, .inl p1), (2, .inl a0)] [] σ o) (fun _ _ => g_none) (fun rec hrec σ v2 => ?_)
  unfold l_Ru_fewestFaults_2
  refine g_iload_n C D_Ru_fewestFaults_2 rfl 2 rfl ?_
  refine g_bipush C D_Ru_fewestFaults_3 (by decide) ⟨by decide, by decide⟩ ?_
  refine g_icmp_ge (tgt := 21) C D_Ru_fewestFaults_5 (by decide) ?_ ?_
  · refine g_sub [0, 1] rfl ?_
    exact hk1 _
  · refine g_aload_n C D_Ru_fewestFaults_8 rfl 0 rfl ?_
    refine g_getr (ci := 5) C 3 rfl kI5 rfl (by decide) rfl rfl wf_5_15 D_Ru_fewestFaults_9 ?_
    refine g_iload_n C D_Ru_fewestFaults_12 rfl 2 rfl ?_
    refine g_iconst C D_Ru_fewestFaults_13 ⟨by decide, by decide⟩ ?_
    refine g_iast C rfl rfl D_Ru_fewestFaults_14 (fun s1 => ?_)
    refine g_iinc (t := 2) (L' := fun z => [(2, .inl z), (0, .inr (.inr 20)), (1, .inl p1)]) C D_Ru_fewestFaults_15 rfl (by decide) (fun _ => rfl) (fun a2 => ?_)
    refine g_goto (tgt := 2) C D_Ru_fewestFaults_18 (by decide) ?_
    refine g_sub [1, 2, 0] rfl ?_
    exact hrec _ _
def j_Ru_fewestFaults_80 (rec : gM → Int → Int → Int → gO) (σ : gM) (p1 v2 v3 v4 v5 : Int) : gO :=
  ga (v4 + 1) fun a1 =>
  gk (F_Ru_nextUse σ v5 a1) fun s2 a3 =>
  gw s2 22 32 v5 a3 fun s4 =>
  ga (v4 + 1) fun a5 =>
  rec s4 v2 v3 a5
set_option maxHeartbeats 4000000 in
theorem wj_Ru_fewestFaults_80 {X : gX} (C : gC gctC prog_7_method_4_code kR5 6 2 44 (some .int) X) {p1 : Int} {rec : gM → Int → Int → Int → gO} (hrec : ∀ (σ : gM) (a0 a1 a2 : Int), GG gctC X 28 [(0, .inr (.inr 20)), (1, .inl p1), (2, .inl a0), (3, .inl a1), (4, .inl a2)] [] σ (rec σ a0 a1 a2)) (σ : gM) (v2 v3 v4 v5 : Int) : GG gctC X 80 [(0, .inr (.inr 20)), (1, .inl p1), (2, .inl v2), (3, .inl v3), (4, .inl v4), (5, .inl v5)] [] σ (j_Ru_fewestFaults_80 rec σ p1 v2 v3 v4 v5) := by
  unfold j_Ru_fewestFaults_80
  refine g_aload_n C D_Ru_fewestFaults_80 rfl 0 rfl ?_
  refine g_getr (ci := 5) C 3 rfl kI5 rfl (by decide) rfl rfl wf_5_15 D_Ru_fewestFaults_81 ?_
  refine g_iload C D_Ru_fewestFaults_84 5 rfl ?_
  refine g_aload_n C D_Ru_fewestFaults_86 rfl 0 rfl ?_
  refine g_iload C D_Ru_fewestFaults_87 5 rfl ?_
  refine g_iload C D_Ru_fewestFaults_89 4 rfl ?_
  refine g_iconst C D_Ru_fewestFaults_91 ⟨by decide, by decide⟩ ?_
  refine g_iadd C D_Ru_fewestFaults_92 (fun a1 => ?_)
  refine g_callVi (ci := 5) C [.inl v5, .inl a1] [.inl v5, .inr (.inr 22)] (Or.inl rfl) rfl (fun _ h1 h2 h3 => c_Ru_nextUse h1 h2 h3) rfl rfl wc_5_33 (by decide) (Nat.le_of_ble_eq_true rfl) D_Ru_fewestFaults_93 (fun s2 a3 => ?_)
  refine g_iast C rfl rfl D_Ru_fewestFaults_96 (fun s4 => ?_)
  refine g_iinc (t := 4) (L' := fun z => [(4, .inl z), (0, .inr (.inr 20)), (1, .inl p1), (2, .inl v2), (3, .inl v3), (5, .inl v5)]) C D_Ru_fewestFaults_97 rfl (by decide) (fun _ => rfl) (fun a5 => ?_)
  refine g_goto (tgt := 28) C D_Ru_fewestFaults_100 (by decide) ?_
  refine g_sub [1, 2, 3, 4, 0] rfl ?_
  exact hrec _ _ _ _
def l_Ru_fewestFaults_28 (p1 : Int) (rec : gM → Int → Int → Int → gO) (σ : gM) (v2 v3 v4 : Int) : gO :=
  if v4 < (σ 20 2) then
  (gk (F_Ru_pageAt σ v4) fun s1 a2 =>
  gi a2 32 <|
  if (s1 22 a2) = (-1) then
  (ga (v2 + 1) fun a3 =>
  if v3 < p1 then
  (ga (v3 + 1) fun a7 =>
  j_Ru_fewestFaults_80 rec s1 p1 a3 a7 v4 a2)
  else
  (gk (F_Ru_furthest s1) fun s4 a5 =>
  gw s4 22 32 a5 (-1) fun s6 =>
  j_Ru_fewestFaults_80 rec s6 p1 a3 v3 v4 a2))
  else
  (j_Ru_fewestFaults_80 rec s1 p1 v2 v3 v4 a2))
  else
  (some (σ, v2))
set_option maxHeartbeats 4000000 in
theorem wl_Ru_fewestFaults_28 {X : gX} (C : gC gctC prog_7_method_4_code kR5 6 2 44 (some .int) X) {p1 : Int} : ∀ (n : Nat) (σ : gM) (a0 a1 a2 : Int), GG gctC X 28 [(0, .inr (.inr 20)), (1, .inl p1), (2, .inl a0), (3, .inl a1), (4, .inl a2)] [] σ (gl3 (l_Ru_fewestFaults_28 p1) n σ a0 a1 a2) := by
  refine gl3_run (P := fun σ a0 a1 a2 o => GG gctC X 28 [(0, .inr (.inr 20)), (1, .inl p1), (2, .inl a0), (3, .inl a1), (4, .inl a2)] [] σ o) (fun _ _ _ _ => g_none) (fun rec hrec σ v2 v3 v4 => ?_)
  unfold l_Ru_fewestFaults_28
  refine g_iload C D_Ru_fewestFaults_28 4 rfl ?_
  refine g_aload_n C D_Ru_fewestFaults_30 rfl 0 rfl ?_
  refine g_get (ci := 5) C 2 (jz := 2) rfl rfl kI5 rfl (by decide) rfl rfl wf_5_22 rfl D_Ru_fewestFaults_31 ?_
  refine g_icmp_ge (tgt := 103) C D_Ru_fewestFaults_34 (by decide) ?_ ?_
  · refine g_iload_n C D_Ru_fewestFaults_103 rfl 2 rfl ?_
    exact g_iret C D_Ru_fewestFaults_104
  · refine g_aload_n C D_Ru_fewestFaults_37 rfl 0 rfl ?_
    refine g_iload C D_Ru_fewestFaults_38 4 rfl ?_
    refine g_callVi (ci := 5) C [.inl v4] [] (Or.inl rfl) rfl (fun _ h1 h2 h3 => c_Ru_pageAt h1 h2 h3) rfl rfl wc_5_25 (by decide) (Nat.le_of_ble_eq_true rfl) D_Ru_fewestFaults_40 (fun s1 a2 => ?_)
    refine g_istore (L' := [(5, .inl a2), (0, .inr (.inr 20)), (1, .inl p1), (2, .inl v2), (3, .inl v3), (4, .inl v4)]) C D_Ru_fewestFaults_43 (by decide) rfl ?_
    refine g_aload_n C D_Ru_fewestFaults_45 rfl 1 rfl ?_
    refine g_getr (ci := 5) C 3 rfl kI5 rfl (by decide) rfl rfl wf_5_15 D_Ru_fewestFaults_46 ?_
    refine g_iload C D_Ru_fewestFaults_49 0 rfl ?_
    refine g_iald C rfl rfl rfl D_Ru_fewestFaults_51 ?_
    refine g_iconst C D_Ru_fewestFaults_52 ⟨by decide, by decide⟩ ?_
    refine g_icmp_ne (tgt := 80) C D_Ru_fewestFaults_53 (by decide) ?_ ?_
    · refine g_sub [1, 2, 3, 4, 5, 0] rfl ?_
      exact wj_Ru_fewestFaults_80 C hrec _ _ _ _ _
    · refine g_iinc (t := 3) (L' := fun z => [(2, .inl z), (5, .inl a2), (0, .inr (.inr 20)), (1, .inl p1), (3, .inl v3), (4, .inl v4)]) C D_Ru_fewestFaults_56 rfl (by decide) (fun _ => rfl) (fun a3 => ?_)
      refine g_iload_n C D_Ru_fewestFaults_59 rfl 4 rfl ?_
      refine g_iload_n C D_Ru_fewestFaults_60 rfl 3 rfl ?_
      refine g_icmp_ge (tgt := 70) C D_Ru_fewestFaults_61 (by decide) ?_ ?_
      · refine g_aload_n C D_Ru_fewestFaults_70 rfl 2 rfl ?_
        refine g_getr (ci := 5) C 3 rfl kI5 rfl (by decide) rfl rfl wf_5_15 D_Ru_fewestFaults_71 ?_
        refine g_aload_n C D_Ru_fewestFaults_74 rfl 2 rfl ?_
        refine g_callVi (ci := 5) C [] [.inr (.inr 22)] (Or.inl rfl) rfl (fun _ h1 h2 h3 => c_Ru_furthest h1 h2 h3) rfl rfl wc_5_29 (by decide) (Nat.le_of_ble_eq_true rfl) D_Ru_fewestFaults_75 (fun s4 a5 => ?_)
        refine g_iconst C D_Ru_fewestFaults_78 ⟨by decide, by decide⟩ ?_
        refine g_iast C rfl rfl D_Ru_fewestFaults_79 (fun s6 => ?_)
        refine g_sub [2, 3, 0, 4, 5, 1] rfl ?_
        exact wj_Ru_fewestFaults_80 C hrec _ _ _ _ _
      · refine g_iinc (t := 4) (L' := fun z => [(3, .inl z), (2, .inl a3), (5, .inl a2), (0, .inr (.inr 20)), (1, .inl p1), (4, .inl v4)]) C D_Ru_fewestFaults_64 rfl (by decide) (fun _ => rfl) (fun a7 => ?_)
        refine g_goto (tgt := 80) C D_Ru_fewestFaults_67 (by decide) ?_
        refine g_sub [3, 4, 1, 0, 5, 2] rfl ?_
        exact wj_Ru_fewestFaults_80 C hrec _ _ _ _ _
def F_Ru_fewestFaults (σ : gM) (v1 : Int) : gO :=
  gl1 (l_Ru_fewestFaults_2 (fun s1 => gl3 (l_Ru_fewestFaults_28 v1) 200 s1 0 0 0) v1) 200 σ 0
set_option maxHeartbeats 4000000 in
theorem w_Ru_fewestFaults {X : gX} (C : gC gctC prog_7_method_4_code kR5 6 2 44 (some .int) X) (σ : gM) (v1 : Int) : GG gctC X 0 [(0, .inr (.inr 20)), (1, .inl v1)] [] σ (F_Ru_fewestFaults σ v1) := by
  unfold F_Ru_fewestFaults
  refine g_iconst C D_Ru_fewestFaults_0 ⟨by decide, by decide⟩ ?_
  refine g_istore_n (L' := [(2, .inl 0), (0, .inr (.inr 20)), (1, .inl v1)]) C D_Ru_fewestFaults_1 rfl (by decide) rfl ?_
  refine g_sub [1, 2, 0] rfl ?_
  exact wl_Ru_fewestFaults_2 C (fun s1 => by
      refine g_iconst C D_Ru_fewestFaults_21 ⟨by decide, by decide⟩ ?_
      refine g_istore_n (L' := [(2, .inl 0), (0, .inr (.inr 20)), (1, .inl v1)]) C D_Ru_fewestFaults_22 rfl (by decide) rfl ?_
      refine g_iconst C D_Ru_fewestFaults_23 ⟨by decide, by decide⟩ ?_
      refine g_istore_n (L' := [(3, .inl 0), (2, .inl 0), (0, .inr (.inr 20)), (1, .inl v1)]) C D_Ru_fewestFaults_24 rfl (by decide) rfl ?_
      refine g_iconst C D_Ru_fewestFaults_25 ⟨by decide, by decide⟩ ?_
      refine g_istore (L' := [(4, .inl 0), (3, .inl 0), (2, .inl 0), (0, .inr (.inr 20)), (1, .inl v1)]) C D_Ru_fewestFaults_26 (by decide) rfl ?_
      refine g_sub [3, 4, 2, 1, 0] rfl ?_
      exact wl_Ru_fewestFaults_28 C 200 _ _ _ _) 200 _ _
theorem c_Ru_fewestFaults {σ : gM} {v1 : Int} {r : gR} (ho : F_Ru_fewestFaults σ v1 = some r) (hok : gOk [.inr (.inr 20), .inl v1]) (hin : gIn gctC σ) : gCt gctC Y_Ru_fewestFaults prog_7_method_4_code 6 (some .int) 2 44 [.inr (.inr 20), .inl v1] σ r := g_entry (by decide) rfl (Nat.le_of_ble_eq_true rfl) ho hok hin (fun X C => w_Ru_fewestFaults C σ v1)
theorem D_Co_within_0 : decode prog_1_method_25_code 0 = .ok (.iload_n 0, 1) := by decide +kernel
theorem D_Co_within_1 : decode prog_1_method_25_code 1 = .ok (.ifCond .lt 12, 3) := by decide +kernel
theorem D_Co_within_4 : decode prog_1_method_25_code 4 = .ok (.iload_n 0, 1) := by decide +kernel
theorem D_Co_within_5 : decode prog_1_method_25_code 5 = .ok (.iload_n 1, 1) := by decide +kernel
theorem D_Co_within_6 : decode prog_1_method_25_code 6 = .ok (.if_icmp .gt 7, 3) := by decide +kernel
theorem D_Co_within_9 : decode prog_1_method_25_code 9 = .ok (.iconst 1, 1) := by decide +kernel
theorem D_Co_within_10 : decode prog_1_method_25_code 10 = .ok (.goto 4, 3) := by decide +kernel
theorem D_Co_within_13 : decode prog_1_method_25_code 13 = .ok (.iconst 0, 1) := by decide +kernel
theorem D_Co_within_14 : decode prog_1_method_25_code 14 = .ok (.ireturn, 1) := by decide +kernel
def j_Co_within_14 (σ : gM) (t0 : Int) : gO :=
  gb t0 (some (σ, t0))
set_option maxHeartbeats 4000000 in
theorem wj_Co_within_14 {X : gX} (C : gC gctC prog_1_method_25_code kR6 2 0 0 (some .boolean) X) (σ : gM) (t0 : Int) : GG gctC X 14 [] [.inl t0] σ (j_Co_within_14 σ t0) := by
  unfold j_Co_within_14
  exact g_zret C D_Co_within_14
def j_Co_within_13 (σ : gM) : gO :=
  j_Co_within_14 σ 0
set_option maxHeartbeats 4000000 in
theorem wj_Co_within_13 {X : gX} (C : gC gctC prog_1_method_25_code kR6 2 0 0 (some .boolean) X) (σ : gM) : GG gctC X 13 [] [] σ (j_Co_within_13 σ) := by
  unfold j_Co_within_13
  refine g_iconst C D_Co_within_13 ⟨by decide, by decide⟩ ?_
  exact wj_Co_within_14 C _ _
def F_Co_within (σ : gM) (v0 v1 : Int) : gO :=
  if v0 < 0 then
  (j_Co_within_13 σ)
  else
  (if v1 < v0 then
  (j_Co_within_13 σ)
  else
  (j_Co_within_14 σ 1))
set_option maxHeartbeats 4000000 in
theorem w_Co_within {X : gX} (C : gC gctC prog_1_method_25_code kR6 2 0 0 (some .boolean) X) (σ : gM) (v0 v1 : Int) : GG gctC X 0 [(0, .inl v0), (1, .inl v1)] [] σ (F_Co_within σ v0 v1) := by
  unfold F_Co_within
  refine g_iload_n C D_Co_within_0 rfl 0 rfl ?_
  refine g_if_lt (tgt := 13) C D_Co_within_1 (by decide) ?_ ?_
  · refine g_sub [] rfl ?_
    exact wj_Co_within_13 C _
  · refine g_iload_n C D_Co_within_4 rfl 0 rfl ?_
    refine g_iload_n C D_Co_within_5 rfl 1 rfl ?_
    refine g_icmp_gt (tgt := 13) C D_Co_within_6 (by decide) ?_ ?_
    · refine g_sub [] rfl ?_
      exact wj_Co_within_13 C _
    · refine g_iconst C D_Co_within_9 ⟨by decide, by decide⟩ ?_
      refine g_goto (tgt := 14) C D_Co_within_10 (by decide) ?_
      refine g_sub [] rfl ?_
      exact wj_Co_within_14 C _ _
theorem c_Co_within {σ : gM} {v0 v1 : Int} {r : gR} (ho : F_Co_within σ v0 v1 = some r) (hok : gOk [.inl v0, .inl v1]) (hin : gIn gctC σ) : gCt gctC Y_Co_within prog_1_method_25_code 2 (some .boolean) 0 0 [.inl v0, .inl v1] σ r := g_entry (by decide) rfl (Nat.le_of_ble_eq_true rfl) ho hok hin (fun X C => w_Co_within C σ v0 v1)
theorem D_Co_limit_0 : decode prog_1_method_2_code 0 = .ok (.iload_n 1, 1) := by decide +kernel
theorem D_Co_limit_1 : decode prog_1_method_2_code 1 = .ok (.bipush 60, 2) := by decide +kernel
theorem D_Co_limit_3 : decode prog_1_method_2_code 3 = .ok (.invokestatic 56, 3) := by decide +kernel
theorem D_Co_limit_6 : decode prog_1_method_2_code 6 = .ok (.ifCond .ne 5, 3) := by decide +kernel
theorem D_Co_limit_9 : decode prog_1_method_2_code 9 = .ok (.iconst (-1), 1) := by decide +kernel
theorem D_Co_limit_10 : decode prog_1_method_2_code 10 = .ok (.ireturn, 1) := by decide +kernel
theorem D_Co_limit_11 : decode prog_1_method_2_code 11 = .ok (.aload_n 0, 1) := by decide +kernel
theorem D_Co_limit_12 : decode prog_1_method_2_code 12 = .ok (.getfield 25, 3) := by decide +kernel
theorem D_Co_limit_15 : decode prog_1_method_2_code 15 = .ok (.getfield 60, 3) := by decide +kernel
theorem D_Co_limit_18 : decode prog_1_method_2_code 18 = .ok (.istore_n 2, 1) := by decide +kernel
theorem D_Co_limit_19 : decode prog_1_method_2_code 19 = .ok (.aload_n 0, 1) := by decide +kernel
theorem D_Co_limit_20 : decode prog_1_method_2_code 20 = .ok (.getfield 25, 3) := by decide +kernel
theorem D_Co_limit_23 : decode prog_1_method_2_code 23 = .ok (.iload_n 1, 1) := by decide +kernel
theorem D_Co_limit_24 : decode prog_1_method_2_code 24 = .ok (.putfield 60, 3) := by decide +kernel
theorem D_Co_limit_27 : decode prog_1_method_2_code 27 = .ok (.iload_n 2, 1) := by decide +kernel
theorem D_Co_limit_28 : decode prog_1_method_2_code 28 = .ok (.ireturn, 1) := by decide +kernel
def F_Co_limit (σ : gM) (v1 : Int) : gO :=
  gk (F_Co_within σ v1 60) fun s1 a2 =>
  if a2 = 0 then
  (some (s1, (-1)))
  else
  (gv (s1 5 3) fun a3 =>
  gp s1 5 3 v1 fun s4 =>
  some (s4, a3))
set_option maxHeartbeats 4000000 in
theorem w_Co_limit {X : gX} (C : gC gctC prog_1_method_2_code kR6 3 1 21 (some .int) X) (σ : gM) (v1 : Int) : GG gctC X 0 [(0, .inr (.inr 0)), (1, .inl v1)] [] σ (F_Co_limit σ v1) := by
  unfold F_Co_limit
  refine g_iload_n C D_Co_limit_0 rfl 1 rfl ?_
  refine g_bipush C D_Co_limit_1 (by decide) ⟨by decide, by decide⟩ ?_
  refine g_callSi C [.inl v1, .inl 60] [] (Or.inr rfl) rfl (fun _ h1 h2 h3 => c_Co_within h1 h2 h3) wc_6_56 (by decide) (Nat.le_of_ble_eq_true rfl) D_Co_limit_3 (fun s1 a2 => ?_)
  refine g_if_ne (tgt := 11) C D_Co_limit_6 (by decide) ?_ ?_
  · refine g_aload_n C D_Co_limit_11 rfl 0 rfl ?_
    refine g_getr (ci := 6) C 2 rfl kI6 rfl (by decide) rfl rfl wf_6_25 D_Co_limit_12 ?_
    refine g_get (ci := 1) C 3 (jz := 3) rfl rfl kI1 rfl (by decide) rfl rfl wf_6_60 rfl D_Co_limit_15 ?_
    refine g_let C (fun a3 => ?_)
    refine g_istore_n (L' := [(2, .inl a3), (0, .inr (.inr 0)), (1, .inl v1)]) C D_Co_limit_18 rfl (by decide) rfl ?_
    refine g_aload_n C D_Co_limit_19 rfl 1 rfl ?_
    refine g_getr (ci := 6) C 2 rfl kI6 rfl (by decide) rfl rfl wf_6_25 D_Co_limit_20 ?_
    refine g_iload_n C D_Co_limit_23 rfl 2 rfl ?_
    refine g_putI (ci := 1) C 3 (jz := 3) rfl rfl kI1 kO1 kN1 rfl (by decide) rfl rfl wf_6_60 D_Co_limit_24 (fun s4 => ?_)
    refine g_iload_n C D_Co_limit_27 rfl 0 rfl ?_
    exact g_iret C D_Co_limit_28
  · refine g_iconst C D_Co_limit_9 ⟨by decide, by decide⟩ ?_
    exact g_iret C D_Co_limit_10
theorem c_Co_limit {σ : gM} {v1 : Int} {r : gR} (ho : F_Co_limit σ v1 = some r) (hok : gOk [.inr (.inr 0), .inl v1]) (hin : gIn gctC σ) : gCt gctC Y_Co_limit prog_1_method_2_code 3 (some .int) 1 21 [.inr (.inr 0), .inl v1] σ r := g_entry (by decide) rfl (Nat.le_of_ble_eq_true rfl) ho hok hin (fun X C => w_Co_limit C σ v1)
theorem D_Co_flip_0 : decode prog_1_method_3_code 0 = .ok (.iload_n 1, 1) := by decide +kernel
theorem D_Co_flip_1 : decode prog_1_method_3_code 1 = .ok (.sipush 511, 3) := by decide +kernel
theorem D_Co_flip_4 : decode prog_1_method_3_code 4 = .ok (.invokestatic 56, 3) := by decide +kernel
theorem D_Co_flip_7 : decode prog_1_method_3_code 7 = .ok (.ifCond .eq 12, 3) := by decide +kernel
theorem D_Co_flip_10 : decode prog_1_method_3_code 10 = .ok (.iload_n 2, 1) := by decide +kernel
theorem D_Co_flip_11 : decode prog_1_method_3_code 11 = .ok (.bipush 12, 2) := by decide +kernel
theorem D_Co_flip_13 : decode prog_1_method_3_code 13 = .ok (.invokestatic 56, 3) := by decide +kernel
theorem D_Co_flip_16 : decode prog_1_method_3_code 16 = .ok (.ifCond .ne 5, 3) := by decide +kernel
theorem D_Co_flip_19 : decode prog_1_method_3_code 19 = .ok (.iconst (-1), 1) := by decide +kernel
theorem D_Co_flip_20 : decode prog_1_method_3_code 20 = .ok (.ireturn, 1) := by decide +kernel
theorem D_Co_flip_21 : decode prog_1_method_3_code 21 = .ok (.aload_n 0, 1) := by decide +kernel
theorem D_Co_flip_22 : decode prog_1_method_3_code 22 = .ok (.getfield 25, 3) := by decide +kernel
theorem D_Co_flip_25 : decode prog_1_method_3_code 25 = .ok (.getfield 64, 3) := by decide +kernel
theorem D_Co_flip_28 : decode prog_1_method_3_code 28 = .ok (.iload_n 1, 1) := by decide +kernel
theorem D_Co_flip_29 : decode prog_1_method_3_code 29 = .ok (.dup2, 1) := by decide +kernel
theorem D_Co_flip_30 : decode prog_1_method_3_code 30 = .ok (.iaload, 1) := by decide +kernel
theorem D_Co_flip_31 : decode prog_1_method_3_code 31 = .ok (.iconst 1, 1) := by decide +kernel
theorem D_Co_flip_32 : decode prog_1_method_3_code 32 = .ok (.iload_n 2, 1) := by decide +kernel
theorem D_Co_flip_33 : decode prog_1_method_3_code 33 = .ok (.ishl, 1) := by decide +kernel
theorem D_Co_flip_34 : decode prog_1_method_3_code 34 = .ok (.ixor, 1) := by decide +kernel
theorem D_Co_flip_35 : decode prog_1_method_3_code 35 = .ok (.iastore, 1) := by decide +kernel
theorem D_Co_flip_36 : decode prog_1_method_3_code 36 = .ok (.aload_n 0, 1) := by decide +kernel
theorem D_Co_flip_37 : decode prog_1_method_3_code 37 = .ok (.getfield 25, 3) := by decide +kernel
theorem D_Co_flip_40 : decode prog_1_method_3_code 40 = .ok (.getfield 64, 3) := by decide +kernel
theorem D_Co_flip_43 : decode prog_1_method_3_code 43 = .ok (.iload_n 1, 1) := by decide +kernel
theorem D_Co_flip_44 : decode prog_1_method_3_code 44 = .ok (.iaload, 1) := by decide +kernel
theorem D_Co_flip_45 : decode prog_1_method_3_code 45 = .ok (.ireturn, 1) := by decide +kernel
def j_Co_flip_19 (σ : gM) : gO :=
  some (σ, (-1))
set_option maxHeartbeats 4000000 in
theorem wj_Co_flip_19 {X : gX} (C : gC gctC prog_1_method_3_code kR6 3 1 21 (some .int) X) (σ : gM) : GG gctC X 19 [] [] σ (j_Co_flip_19 σ) := by
  unfold j_Co_flip_19
  refine g_iconst C D_Co_flip_19 ⟨by decide, by decide⟩ ?_
  exact g_iret C D_Co_flip_20
def F_Co_flip (σ : gM) (v1 v2 : Int) : gO :=
  gk (F_Co_within σ v1 511) fun s1 a2 =>
  if a2 = 0 then
  (j_Co_flip_19 s1)
  else
  (gk (F_Co_within s1 v2 12) fun s3 a4 =>
  if a4 = 0 then
  (j_Co_flip_19 s3)
  else
  (gi v1 512 <|
  gw s3 6 512 v1 (gXor (s3 6 v1) (gShl 1 v2)) fun s5 =>
  gi v1 512 <|
  some (s5, (s5 6 v1))))
set_option maxHeartbeats 4000000 in
theorem w_Co_flip {X : gX} (C : gC gctC prog_1_method_3_code kR6 3 1 21 (some .int) X) (σ : gM) (v1 v2 : Int) : GG gctC X 0 [(0, .inr (.inr 0)), (1, .inl v1), (2, .inl v2)] [] σ (F_Co_flip σ v1 v2) := by
  unfold F_Co_flip
  refine g_iload_n C D_Co_flip_0 rfl 1 rfl ?_
  refine g_sipush C D_Co_flip_1 (by decide) ⟨by decide, by decide⟩ ?_
  refine g_callSi C [.inl v1, .inl 511] [] (Or.inr rfl) rfl (fun _ h1 h2 h3 => c_Co_within h1 h2 h3) wc_6_56 (by decide) (Nat.le_of_ble_eq_true rfl) D_Co_flip_4 (fun s1 a2 => ?_)
  refine g_if_eq (tgt := 19) C D_Co_flip_7 (by decide) ?_ ?_
  · refine g_sub [] rfl ?_
    exact wj_Co_flip_19 C _
  · refine g_iload_n C D_Co_flip_10 rfl 2 rfl ?_
    refine g_bipush C D_Co_flip_11 (by decide) ⟨by decide, by decide⟩ ?_
    refine g_callSi C [.inl v2, .inl 12] [] (Or.inr rfl) rfl (fun _ h1 h2 h3 => c_Co_within h1 h2 h3) wc_6_56 (by decide) (Nat.le_of_ble_eq_true rfl) D_Co_flip_13 (fun s3 a4 => ?_)
    refine g_if_ne (tgt := 21) C D_Co_flip_16 (by decide) ?_ ?_
    · refine g_aload_n C D_Co_flip_21 rfl 0 rfl ?_
      refine g_getr (ci := 6) C 2 rfl kI6 rfl (by decide) rfl rfl wf_6_25 D_Co_flip_22 ?_
      refine g_getr (ci := 1) C 0 rfl kI1 rfl (by decide) rfl rfl wf_6_64 D_Co_flip_25 ?_
      refine g_iload_n C D_Co_flip_28 rfl 1 rfl ?_
      refine g_dup2 C D_Co_flip_29 rfl rfl ?_
      refine g_iald C rfl rfl rfl D_Co_flip_30 ?_
      refine g_iconst C D_Co_flip_31 ⟨by decide, by decide⟩ ?_
      refine g_iload_n C D_Co_flip_32 rfl 2 rfl ?_
      refine g_ishl C D_Co_flip_33 ?_
      refine g_ixor C D_Co_flip_34 ?_
      refine g_iast C rfl rfl D_Co_flip_35 (fun s5 => ?_)
      refine g_aload_n C D_Co_flip_36 rfl 0 rfl ?_
      refine g_getr (ci := 6) C 2 rfl kI6 rfl (by decide) rfl rfl wf_6_25 D_Co_flip_37 ?_
      refine g_getr (ci := 1) C 0 rfl kI1 rfl (by decide) rfl rfl wf_6_64 D_Co_flip_40 ?_
      refine g_iload_n C D_Co_flip_43 rfl 1 rfl ?_
      refine g_iald C rfl rfl rfl D_Co_flip_44 ?_
      exact g_iret C D_Co_flip_45
    · refine g_sub [] rfl ?_
      exact wj_Co_flip_19 C _
theorem c_Co_flip {σ : gM} {v1 v2 : Int} {r : gR} (ho : F_Co_flip σ v1 v2 = some r) (hok : gOk [.inr (.inr 0), .inl v1, .inl v2]) (hin : gIn gctC σ) : gCt gctC Y_Co_flip prog_1_method_3_code 3 (some .int) 1 21 [.inr (.inr 0), .inl v1, .inl v2] σ r := g_entry (by decide) rfl (Nat.le_of_ble_eq_true rfl) ho hok hin (fun X C => w_Co_flip C σ v1 v2)
theorem D_Co_refresh_0 : decode prog_1_method_4_code 0 = .ok (.iload_n 1, 1) := by decide +kernel
theorem D_Co_refresh_1 : decode prog_1_method_4_code 1 = .ok (.iconst 3, 1) := by decide +kernel
theorem D_Co_refresh_2 : decode prog_1_method_4_code 2 = .ok (.invokestatic 56, 3) := by decide +kernel
theorem D_Co_refresh_5 : decode prog_1_method_4_code 5 = .ok (.ifCond .eq 12, 3) := by decide +kernel
theorem D_Co_refresh_8 : decode prog_1_method_4_code 8 = .ok (.iload_n 2, 1) := by decide +kernel
theorem D_Co_refresh_9 : decode prog_1_method_4_code 9 = .ok (.bipush 15, 2) := by decide +kernel
theorem D_Co_refresh_11 : decode prog_1_method_4_code 11 = .ok (.invokestatic 56, 3) := by decide +kernel
theorem D_Co_refresh_14 : decode prog_1_method_4_code 14 = .ok (.ifCond .ne 5, 3) := by decide +kernel
theorem D_Co_refresh_17 : decode prog_1_method_4_code 17 = .ok (.iconst (-1), 1) := by decide +kernel
theorem D_Co_refresh_18 : decode prog_1_method_4_code 18 = .ok (.ireturn, 1) := by decide +kernel
theorem D_Co_refresh_19 : decode prog_1_method_4_code 19 = .ok (.iload_n 2, 1) := by decide +kernel
theorem D_Co_refresh_20 : decode prog_1_method_4_code 20 = .ok (.iconst 4, 1) := by decide +kernel
theorem D_Co_refresh_21 : decode prog_1_method_4_code 21 = .ok (.imul, 1) := by decide +kernel
theorem D_Co_refresh_22 : decode prog_1_method_4_code 22 = .ok (.iload_n 1, 1) := by decide +kernel
theorem D_Co_refresh_23 : decode prog_1_method_4_code 23 = .ok (.iadd, 1) := by decide +kernel
theorem D_Co_refresh_24 : decode prog_1_method_4_code 24 = .ok (.istore_n 3, 1) := by decide +kernel
theorem D_Co_refresh_25 : decode prog_1_method_4_code 25 = .ok (.aload_n 0, 1) := by decide +kernel
theorem D_Co_refresh_26 : decode prog_1_method_4_code 26 = .ok (.getfield 25, 3) := by decide +kernel
theorem D_Co_refresh_29 : decode prog_1_method_4_code 29 = .ok (.getfield 67, 3) := by decide +kernel
theorem D_Co_refresh_32 : decode prog_1_method_4_code 32 = .ok (.iload_n 3, 1) := by decide +kernel
theorem D_Co_refresh_33 : decode prog_1_method_4_code 33 = .ok (.iaload, 1) := by decide +kernel
theorem D_Co_refresh_34 : decode prog_1_method_4_code 34 = .ok (.istore 4, 2) := by decide +kernel
theorem D_Co_refresh_36 : decode prog_1_method_4_code 36 = .ok (.aload_n 0, 1) := by decide +kernel
theorem D_Co_refresh_37 : decode prog_1_method_4_code 37 = .ok (.getfield 25, 3) := by decide +kernel
theorem D_Co_refresh_40 : decode prog_1_method_4_code 40 = .ok (.getfield 67, 3) := by decide +kernel
theorem D_Co_refresh_43 : decode prog_1_method_4_code 43 = .ok (.iload_n 3, 1) := by decide +kernel
theorem D_Co_refresh_44 : decode prog_1_method_4_code 44 = .ok (.iconst 0, 1) := by decide +kernel
theorem D_Co_refresh_45 : decode prog_1_method_4_code 45 = .ok (.iastore, 1) := by decide +kernel
theorem D_Co_refresh_46 : decode prog_1_method_4_code 46 = .ok (.iload 4, 2) := by decide +kernel
theorem D_Co_refresh_48 : decode prog_1_method_4_code 48 = .ok (.ireturn, 1) := by decide +kernel
def j_Co_refresh_17 (σ : gM) : gO :=
  some (σ, (-1))
set_option maxHeartbeats 4000000 in
theorem wj_Co_refresh_17 {X : gX} (C : gC gctC prog_1_method_4_code kR6 5 1 21 (some .int) X) (σ : gM) : GG gctC X 17 [] [] σ (j_Co_refresh_17 σ) := by
  unfold j_Co_refresh_17
  refine g_iconst C D_Co_refresh_17 ⟨by decide, by decide⟩ ?_
  exact g_iret C D_Co_refresh_18
def F_Co_refresh (σ : gM) (v1 v2 : Int) : gO :=
  gk (F_Co_within σ v1 3) fun s1 a2 =>
  if a2 = 0 then
  (j_Co_refresh_17 s1)
  else
  (gk (F_Co_within s1 v2 15) fun s3 a4 =>
  if a4 = 0 then
  (j_Co_refresh_17 s3)
  else
  (ga (v2 * 4) fun a5 =>
  ga (a5 + v1) fun a6 =>
  gi a6 64 <|
  gv (s3 7 a6) fun a7 =>
  gw s3 7 64 a6 0 fun s8 =>
  some (s8, a7)))
set_option maxHeartbeats 4000000 in
theorem w_Co_refresh {X : gX} (C : gC gctC prog_1_method_4_code kR6 5 1 21 (some .int) X) (σ : gM) (v1 v2 : Int) : GG gctC X 0 [(0, .inr (.inr 0)), (1, .inl v1), (2, .inl v2)] [] σ (F_Co_refresh σ v1 v2) := by
  unfold F_Co_refresh
  refine g_iload_n C D_Co_refresh_0 rfl 1 rfl ?_
  refine g_iconst C D_Co_refresh_1 ⟨by decide, by decide⟩ ?_
  refine g_callSi C [.inl v1, .inl 3] [] (Or.inr rfl) rfl (fun _ h1 h2 h3 => c_Co_within h1 h2 h3) wc_6_56 (by decide) (Nat.le_of_ble_eq_true rfl) D_Co_refresh_2 (fun s1 a2 => ?_)
  refine g_if_eq (tgt := 17) C D_Co_refresh_5 (by decide) ?_ ?_
  · refine g_sub [] rfl ?_
    exact wj_Co_refresh_17 C _
  · refine g_iload_n C D_Co_refresh_8 rfl 2 rfl ?_
    refine g_bipush C D_Co_refresh_9 (by decide) ⟨by decide, by decide⟩ ?_
    refine g_callSi C [.inl v2, .inl 15] [] (Or.inr rfl) rfl (fun _ h1 h2 h3 => c_Co_within h1 h2 h3) wc_6_56 (by decide) (Nat.le_of_ble_eq_true rfl) D_Co_refresh_11 (fun s3 a4 => ?_)
    refine g_if_ne (tgt := 19) C D_Co_refresh_14 (by decide) ?_ ?_
    · refine g_iload_n C D_Co_refresh_19 rfl 2 rfl ?_
      refine g_iconst C D_Co_refresh_20 ⟨by decide, by decide⟩ ?_
      refine g_imul C D_Co_refresh_21 (fun a5 => ?_)
      refine g_iload_n C D_Co_refresh_22 rfl 1 rfl ?_
      refine g_iadd C D_Co_refresh_23 (fun a6 => ?_)
      refine g_istore_n (L' := [(3, .inl a6), (0, .inr (.inr 0)), (1, .inl v1), (2, .inl v2)]) C D_Co_refresh_24 rfl (by decide) rfl ?_
      refine g_aload_n C D_Co_refresh_25 rfl 1 rfl ?_
      refine g_getr (ci := 6) C 2 rfl kI6 rfl (by decide) rfl rfl wf_6_25 D_Co_refresh_26 ?_
      refine g_getr (ci := 1) C 1 rfl kI1 rfl (by decide) rfl rfl wf_6_67 D_Co_refresh_29 ?_
      refine g_iload_n C D_Co_refresh_32 rfl 0 rfl ?_
      refine g_iald C rfl rfl rfl D_Co_refresh_33 ?_
      refine g_let C (fun a7 => ?_)
      refine g_istore (L' := [(4, .inl a7), (3, .inl a6), (0, .inr (.inr 0)), (1, .inl v1), (2, .inl v2)]) C D_Co_refresh_34 (by decide) rfl ?_
      refine g_aload_n C D_Co_refresh_36 rfl 2 rfl ?_
      refine g_getr (ci := 6) C 2 rfl kI6 rfl (by decide) rfl rfl wf_6_25 D_Co_refresh_37 ?_
      refine g_getr (ci := 1) C 1 rfl kI1 rfl (by decide) rfl rfl wf_6_67 D_Co_refresh_40 ?_
      refine g_iload_n C D_Co_refresh_43 rfl 1 rfl ?_
      refine g_iconst C D_Co_refresh_44 ⟨by decide, by decide⟩ ?_
      refine g_iast C rfl rfl D_Co_refresh_45 (fun s8 => ?_)
      refine g_iload C D_Co_refresh_46 0 rfl ?_
      exact g_iret C D_Co_refresh_48
    · refine g_sub [] rfl ?_
      exact wj_Co_refresh_17 C _
theorem c_Co_refresh {σ : gM} {v1 v2 : Int} {r : gR} (ho : F_Co_refresh σ v1 v2 = some r) (hok : gOk [.inr (.inr 0), .inl v1, .inl v2]) (hin : gIn gctC σ) : gCt gctC Y_Co_refresh prog_1_method_4_code 5 (some .int) 1 21 [.inr (.inr 0), .inl v1, .inl v2] σ r := g_entry (by decide) rfl (Nat.le_of_ble_eq_true rfl) ho hok hin (fun X C => w_Co_refresh C σ v1 v2)
theorem D_Co_cell_0 : decode prog_1_method_5_code 0 = .ok (.iload_n 1, 1) := by decide +kernel
theorem D_Co_cell_1 : decode prog_1_method_5_code 1 = .ok (.sipush 511, 3) := by decide +kernel
theorem D_Co_cell_4 : decode prog_1_method_5_code 4 = .ok (.invokestatic 56, 3) := by decide +kernel
theorem D_Co_cell_7 : decode prog_1_method_5_code 7 = .ok (.ifCond .eq 11, 3) := by decide +kernel
theorem D_Co_cell_10 : decode prog_1_method_5_code 10 = .ok (.iload_n 2, 1) := by decide +kernel
theorem D_Co_cell_11 : decode prog_1_method_5_code 11 = .ok (.iconst 1, 1) := by decide +kernel
theorem D_Co_cell_12 : decode prog_1_method_5_code 12 = .ok (.invokestatic 56, 3) := by decide +kernel
theorem D_Co_cell_15 : decode prog_1_method_5_code 15 = .ok (.ifCond .ne 5, 3) := by decide +kernel
theorem D_Co_cell_18 : decode prog_1_method_5_code 18 = .ok (.iconst (-1), 1) := by decide +kernel
theorem D_Co_cell_19 : decode prog_1_method_5_code 19 = .ok (.ireturn, 1) := by decide +kernel
theorem D_Co_cell_20 : decode prog_1_method_5_code 20 = .ok (.aload_n 0, 1) := by decide +kernel
theorem D_Co_cell_21 : decode prog_1_method_5_code 21 = .ok (.getfield 25, 3) := by decide +kernel
theorem D_Co_cell_24 : decode prog_1_method_5_code 24 = .ok (.getfield 64, 3) := by decide +kernel
theorem D_Co_cell_27 : decode prog_1_method_5_code 27 = .ok (.iload_n 1, 1) := by decide +kernel
theorem D_Co_cell_28 : decode prog_1_method_5_code 28 = .ok (.iaload, 1) := by decide +kernel
theorem D_Co_cell_29 : decode prog_1_method_5_code 29 = .ok (.istore_n 3, 1) := by decide +kernel
theorem D_Co_cell_30 : decode prog_1_method_5_code 30 = .ok (.iload_n 2, 1) := by decide +kernel
theorem D_Co_cell_31 : decode prog_1_method_5_code 31 = .ok (.ifCond .ne 5, 3) := by decide +kernel
theorem D_Co_cell_34 : decode prog_1_method_5_code 34 = .ok (.iload_n 3, 1) := by decide +kernel
theorem D_Co_cell_35 : decode prog_1_method_5_code 35 = .ok (.ireturn, 1) := by decide +kernel
theorem D_Co_cell_36 : decode prog_1_method_5_code 36 = .ok (.iload_n 3, 1) := by decide +kernel
theorem D_Co_cell_37 : decode prog_1_method_5_code 37 = .ok (.invokestatic 70, 3) := by decide +kernel
theorem D_Co_cell_40 : decode prog_1_method_5_code 40 = .ok (.istore 4, 2) := by decide +kernel
theorem D_Co_cell_42 : decode prog_1_method_5_code 42 = .ok (.iload 4, 2) := by decide +kernel
theorem D_Co_cell_44 : decode prog_1_method_5_code 44 = .ok (.bipush (-5), 2) := by decide +kernel
theorem D_Co_cell_46 : decode prog_1_method_5_code 46 = .ok (.if_icmp .ne 8, 3) := by decide +kernel
theorem D_Co_cell_49 : decode prog_1_method_5_code 49 = .ok (.bipush (-5), 2) := by decide +kernel
theorem D_Co_cell_51 : decode prog_1_method_5_code 51 = .ok (.goto 8, 3) := by decide +kernel
theorem D_Co_cell_54 : decode prog_1_method_5_code 54 = .ok (.iload 4, 2) := by decide +kernel
theorem D_Co_cell_56 : decode prog_1_method_5_code 56 = .ok (.invokestatic 74, 3) := by decide +kernel
theorem D_Co_cell_59 : decode prog_1_method_5_code 59 = .ok (.ireturn, 1) := by decide +kernel
def j_Co_cell_18 (σ : gM) : gO :=
  some (σ, (-1))
set_option maxHeartbeats 4000000 in
theorem wj_Co_cell_18 {X : gX} (C : gC gctC prog_1_method_5_code kR6 5 1 23 (some .int) X) (σ : gM) : GG gctC X 18 [] [] σ (j_Co_cell_18 σ) := by
  unfold j_Co_cell_18
  refine g_iconst C D_Co_cell_18 ⟨by decide, by decide⟩ ?_
  exact g_iret C D_Co_cell_19
def j_Co_cell_59 (σ : gM) (t0 : Int) : gO :=
  some (σ, t0)
set_option maxHeartbeats 4000000 in
theorem wj_Co_cell_59 {X : gX} (C : gC gctC prog_1_method_5_code kR6 5 1 23 (some .int) X) (σ : gM) (t0 : Int) : GG gctC X 59 [] [.inl t0] σ (j_Co_cell_59 σ t0) := by
  unfold j_Co_cell_59
  exact g_iret C D_Co_cell_59
def F_Co_cell (σ : gM) (v1 v2 : Int) : gO :=
  gk (F_Co_within σ v1 511) fun s1 a2 =>
  if a2 = 0 then
  (j_Co_cell_18 s1)
  else
  (gk (F_Co_within s1 v2 1) fun s3 a4 =>
  if a4 = 0 then
  (j_Co_cell_18 s3)
  else
  (gi v1 512 <|
  gv (s3 6 v1) fun a5 =>
  if v2 = 0 then
  (some (s3, a5))
  else
  (gk (F_Ce_righted s3 a5) fun s6 a7 =>
  if a7 = (-5) then
  (j_Co_cell_59 s6 (-5))
  else
  (gk (F_Ce_valueOf s6 a7) fun s8 a9 =>
  j_Co_cell_59 s8 a9))))
set_option maxHeartbeats 4000000 in
theorem w_Co_cell {X : gX} (C : gC gctC prog_1_method_5_code kR6 5 1 23 (some .int) X) (σ : gM) (v1 v2 : Int) : GG gctC X 0 [(0, .inr (.inr 0)), (1, .inl v1), (2, .inl v2)] [] σ (F_Co_cell σ v1 v2) := by
  unfold F_Co_cell
  refine g_iload_n C D_Co_cell_0 rfl 1 rfl ?_
  refine g_sipush C D_Co_cell_1 (by decide) ⟨by decide, by decide⟩ ?_
  refine g_callSi C [.inl v1, .inl 511] [] (Or.inr rfl) rfl (fun _ h1 h2 h3 => c_Co_within h1 h2 h3) wc_6_56 (by decide) (Nat.le_of_ble_eq_true rfl) D_Co_cell_4 (fun s1 a2 => ?_)
  refine g_if_eq (tgt := 18) C D_Co_cell_7 (by decide) ?_ ?_
  · refine g_sub [] rfl ?_
    exact wj_Co_cell_18 C _
  · refine g_iload_n C D_Co_cell_10 rfl 2 rfl ?_
    refine g_iconst C D_Co_cell_11 ⟨by decide, by decide⟩ ?_
    refine g_callSi C [.inl v2, .inl 1] [] (Or.inr rfl) rfl (fun _ h1 h2 h3 => c_Co_within h1 h2 h3) wc_6_56 (by decide) (Nat.le_of_ble_eq_true rfl) D_Co_cell_12 (fun s3 a4 => ?_)
    refine g_if_ne (tgt := 20) C D_Co_cell_15 (by decide) ?_ ?_
    · refine g_aload_n C D_Co_cell_20 rfl 0 rfl ?_
      refine g_getr (ci := 6) C 2 rfl kI6 rfl (by decide) rfl rfl wf_6_25 D_Co_cell_21 ?_
      refine g_getr (ci := 1) C 0 rfl kI1 rfl (by decide) rfl rfl wf_6_64 D_Co_cell_24 ?_
      refine g_iload_n C D_Co_cell_27 rfl 1 rfl ?_
      refine g_iald C rfl rfl rfl D_Co_cell_28 ?_
      refine g_let C (fun a5 => ?_)
      refine g_istore_n (L' := [(3, .inl a5), (0, .inr (.inr 0)), (1, .inl v1), (2, .inl v2)]) C D_Co_cell_29 rfl (by decide) rfl ?_
      refine g_iload_n C D_Co_cell_30 rfl 3 rfl ?_
      refine g_if_ne (tgt := 36) C D_Co_cell_31 (by decide) ?_ ?_
      · refine g_iload_n C D_Co_cell_36 rfl 0 rfl ?_
        refine g_callSi C [.inl a5] [] (Or.inl rfl) rfl (fun _ h1 h2 h3 => c_Ce_righted h1 h2 h3) wc_6_70 (by decide) (Nat.le_of_ble_eq_true rfl) D_Co_cell_37 (fun s6 a7 => ?_)
        refine g_istore (L' := [(4, .inl a7), (3, .inl a5), (0, .inr (.inr 0)), (1, .inl v1), (2, .inl v2)]) C D_Co_cell_40 (by decide) rfl ?_
        refine g_iload C D_Co_cell_42 0 rfl ?_
        refine g_bipush C D_Co_cell_44 (by decide) ⟨by decide, by decide⟩ ?_
        refine g_icmp_ne (tgt := 54) C D_Co_cell_46 (by decide) ?_ ?_
        · refine g_iload C D_Co_cell_54 0 rfl ?_
          refine g_callSi C [.inl a7] [] (Or.inl rfl) rfl (fun _ h1 h2 h3 => c_Ce_valueOf h1 h2 h3) wc_6_74 (by decide) (Nat.le_of_ble_eq_true rfl) D_Co_cell_56 (fun s8 a9 => ?_)
          refine g_sub [] rfl ?_
          exact wj_Co_cell_59 C _ _
        · refine g_bipush C D_Co_cell_49 (by decide) ⟨by decide, by decide⟩ ?_
          refine g_goto (tgt := 59) C D_Co_cell_51 (by decide) ?_
          refine g_sub [] rfl ?_
          exact wj_Co_cell_59 C _ _
      · refine g_iload_n C D_Co_cell_34 rfl 0 rfl ?_
        exact g_iret C D_Co_cell_35
    · refine g_sub [] rfl ?_
      exact wj_Co_cell_18 C _
theorem c_Co_cell {σ : gM} {v1 v2 : Int} {r : gR} (ho : F_Co_cell σ v1 v2 = some r) (hok : gOk [.inr (.inr 0), .inl v1, .inl v2]) (hin : gIn gctC σ) : gCt gctC Y_Co_cell prog_1_method_5_code 5 (some .int) 1 23 [.inr (.inr 0), .inl v1, .inl v2] σ r := g_entry (by decide) rfl (Nat.le_of_ble_eq_true rfl) ho hok hin (fun X C => w_Co_cell C σ v1 v2)
theorem D_Co_open_0 : decode prog_1_method_6_code 0 = .ok (.iload_n 1, 1) := by decide +kernel
theorem D_Co_open_1 : decode prog_1_method_6_code 1 = .ok (.iconst 3, 1) := by decide +kernel
theorem D_Co_open_2 : decode prog_1_method_6_code 2 = .ok (.invokestatic 56, 3) := by decide +kernel
theorem D_Co_open_5 : decode prog_1_method_6_code 5 = .ok (.ifCond .ne 5, 3) := by decide +kernel
theorem D_Co_open_8 : decode prog_1_method_6_code 8 = .ok (.iconst (-1), 1) := by decide +kernel
theorem D_Co_open_9 : decode prog_1_method_6_code 9 = .ok (.ireturn, 1) := by decide +kernel
theorem D_Co_open_10 : decode prog_1_method_6_code 10 = .ok (.aload_n 0, 1) := by decide +kernel
theorem D_Co_open_11 : decode prog_1_method_6_code 11 = .ok (.getfield 25, 3) := by decide +kernel
theorem D_Co_open_14 : decode prog_1_method_6_code 14 = .ok (.getfield 77, 3) := by decide +kernel
theorem D_Co_open_17 : decode prog_1_method_6_code 17 = .ok (.iload_n 1, 1) := by decide +kernel
theorem D_Co_open_18 : decode prog_1_method_6_code 18 = .ok (.iaload, 1) := by decide +kernel
theorem D_Co_open_19 : decode prog_1_method_6_code 19 = .ok (.ireturn, 1) := by decide +kernel
def F_Co_open (σ : gM) (v1 : Int) : gO :=
  gk (F_Co_within σ v1 3) fun s1 a2 =>
  if a2 = 0 then
  (some (s1, (-1)))
  else
  (gi v1 4 <|
  some (s1, (s1 8 v1)))
set_option maxHeartbeats 4000000 in
theorem w_Co_open {X : gX} (C : gC gctC prog_1_method_6_code kR6 2 1 21 (some .int) X) (σ : gM) (v1 : Int) : GG gctC X 0 [(0, .inr (.inr 0)), (1, .inl v1)] [] σ (F_Co_open σ v1) := by
  unfold F_Co_open
  refine g_iload_n C D_Co_open_0 rfl 1 rfl ?_
  refine g_iconst C D_Co_open_1 ⟨by decide, by decide⟩ ?_
  refine g_callSi C [.inl v1, .inl 3] [] (Or.inr rfl) rfl (fun _ h1 h2 h3 => c_Co_within h1 h2 h3) wc_6_56 (by decide) (Nat.le_of_ble_eq_true rfl) D_Co_open_2 (fun s1 a2 => ?_)
  refine g_if_ne (tgt := 10) C D_Co_open_5 (by decide) ?_ ?_
  · refine g_aload_n C D_Co_open_10 rfl 0 rfl ?_
    refine g_getr (ci := 6) C 2 rfl kI6 rfl (by decide) rfl rfl wf_6_25 D_Co_open_11 ?_
    refine g_getr (ci := 1) C 2 rfl kI1 rfl (by decide) rfl rfl wf_6_77 D_Co_open_14 ?_
    refine g_iload_n C D_Co_open_17 rfl 1 rfl ?_
    refine g_iald C rfl rfl rfl D_Co_open_18 ?_
    exact g_iret C D_Co_open_19
  · refine g_iconst C D_Co_open_8 ⟨by decide, by decide⟩ ?_
    exact g_iret C D_Co_open_9
theorem c_Co_open {σ : gM} {v1 : Int} {r : gR} (ho : F_Co_open σ v1 = some r) (hok : gOk [.inr (.inr 0), .inl v1]) (hin : gIn gctC σ) : gCt gctC Y_Co_open prog_1_method_6_code 2 (some .int) 1 21 [.inr (.inr 0), .inl v1] σ r := g_entry (by decide) rfl (Nat.le_of_ble_eq_true rfl) ho hok hin (fun X C => w_Co_open C σ v1)
theorem D_Jd_bitCount_0 : decode prog_10_method_49_code 0 = .ok (.iload_n 0, 1) := by decide +kernel
theorem D_Jd_bitCount_1 : decode prog_10_method_49_code 1 = .ok (.iload_n 0, 1) := by decide +kernel
theorem D_Jd_bitCount_2 : decode prog_10_method_49_code 2 = .ok (.iconst 1, 1) := by decide +kernel
theorem D_Jd_bitCount_3 : decode prog_10_method_49_code 3 = .ok (.iushr, 1) := by decide +kernel
theorem D_Jd_bitCount_4 : decode prog_10_method_49_code 4 = .ok (.ldc_w 265, 3) := by decide +kernel
theorem D_Jd_bitCount_7 : decode prog_10_method_49_code 7 = .ok (.iand, 1) := by decide +kernel
theorem D_Jd_bitCount_8 : decode prog_10_method_49_code 8 = .ok (.isub, 1) := by decide +kernel
theorem D_Jd_bitCount_9 : decode prog_10_method_49_code 9 = .ok (.istore_n 0, 1) := by decide +kernel
theorem D_Jd_bitCount_10 : decode prog_10_method_49_code 10 = .ok (.iload_n 0, 1) := by decide +kernel
theorem D_Jd_bitCount_11 : decode prog_10_method_49_code 11 = .ok (.ldc_w 266, 3) := by decide +kernel
theorem D_Jd_bitCount_14 : decode prog_10_method_49_code 14 = .ok (.iand, 1) := by decide +kernel
theorem D_Jd_bitCount_15 : decode prog_10_method_49_code 15 = .ok (.iload_n 0, 1) := by decide +kernel
theorem D_Jd_bitCount_16 : decode prog_10_method_49_code 16 = .ok (.iconst 2, 1) := by decide +kernel
theorem D_Jd_bitCount_17 : decode prog_10_method_49_code 17 = .ok (.iushr, 1) := by decide +kernel
theorem D_Jd_bitCount_18 : decode prog_10_method_49_code 18 = .ok (.ldc_w 266, 3) := by decide +kernel
theorem D_Jd_bitCount_21 : decode prog_10_method_49_code 21 = .ok (.iand, 1) := by decide +kernel
theorem D_Jd_bitCount_22 : decode prog_10_method_49_code 22 = .ok (.iadd, 1) := by decide +kernel
theorem D_Jd_bitCount_23 : decode prog_10_method_49_code 23 = .ok (.istore_n 0, 1) := by decide +kernel
theorem D_Jd_bitCount_24 : decode prog_10_method_49_code 24 = .ok (.iload_n 0, 1) := by decide +kernel
theorem D_Jd_bitCount_25 : decode prog_10_method_49_code 25 = .ok (.iload_n 0, 1) := by decide +kernel
theorem D_Jd_bitCount_26 : decode prog_10_method_49_code 26 = .ok (.iconst 4, 1) := by decide +kernel
theorem D_Jd_bitCount_27 : decode prog_10_method_49_code 27 = .ok (.iushr, 1) := by decide +kernel
theorem D_Jd_bitCount_28 : decode prog_10_method_49_code 28 = .ok (.iadd, 1) := by decide +kernel
theorem D_Jd_bitCount_29 : decode prog_10_method_49_code 29 = .ok (.ldc_w 267, 3) := by decide +kernel
theorem D_Jd_bitCount_32 : decode prog_10_method_49_code 32 = .ok (.iand, 1) := by decide +kernel
theorem D_Jd_bitCount_33 : decode prog_10_method_49_code 33 = .ok (.istore_n 0, 1) := by decide +kernel
theorem D_Jd_bitCount_34 : decode prog_10_method_49_code 34 = .ok (.iload_n 0, 1) := by decide +kernel
theorem D_Jd_bitCount_35 : decode prog_10_method_49_code 35 = .ok (.iload_n 0, 1) := by decide +kernel
theorem D_Jd_bitCount_36 : decode prog_10_method_49_code 36 = .ok (.bipush 8, 2) := by decide +kernel
theorem D_Jd_bitCount_38 : decode prog_10_method_49_code 38 = .ok (.iushr, 1) := by decide +kernel
theorem D_Jd_bitCount_39 : decode prog_10_method_49_code 39 = .ok (.iadd, 1) := by decide +kernel
theorem D_Jd_bitCount_40 : decode prog_10_method_49_code 40 = .ok (.istore_n 0, 1) := by decide +kernel
theorem D_Jd_bitCount_41 : decode prog_10_method_49_code 41 = .ok (.iload_n 0, 1) := by decide +kernel
theorem D_Jd_bitCount_42 : decode prog_10_method_49_code 42 = .ok (.iload_n 0, 1) := by decide +kernel
theorem D_Jd_bitCount_43 : decode prog_10_method_49_code 43 = .ok (.bipush 16, 2) := by decide +kernel
theorem D_Jd_bitCount_45 : decode prog_10_method_49_code 45 = .ok (.iushr, 1) := by decide +kernel
theorem D_Jd_bitCount_46 : decode prog_10_method_49_code 46 = .ok (.iadd, 1) := by decide +kernel
theorem D_Jd_bitCount_47 : decode prog_10_method_49_code 47 = .ok (.istore_n 0, 1) := by decide +kernel
theorem D_Jd_bitCount_48 : decode prog_10_method_49_code 48 = .ok (.iload_n 0, 1) := by decide +kernel
theorem D_Jd_bitCount_49 : decode prog_10_method_49_code 49 = .ok (.bipush 63, 2) := by decide +kernel
theorem D_Jd_bitCount_51 : decode prog_10_method_49_code 51 = .ok (.iand, 1) := by decide +kernel
theorem D_Jd_bitCount_52 : decode prog_10_method_49_code 52 = .ok (.ireturn, 1) := by decide +kernel
def F_Jd_bitCount (σ : gM) (v0 : Int) : gO :=
  ga (v0 - (gAnd (gUshr v0 1) 1431655765)) fun a1 =>
  ga ((gAnd a1 858993459) + (gAnd (gUshr a1 2) 858993459)) fun a2 =>
  ga (a2 + (gUshr a2 4)) fun a3 =>
  gv (gAnd a3 252645135) fun a4 =>
  ga (a4 + (gUshr a4 8)) fun a5 =>
  ga (a5 + (gUshr a5 16)) fun a6 =>
  some (σ, (gAnd a6 63))
set_option maxHeartbeats 4000000 in
theorem w_Jd_bitCount {X : gX} (C : gC gctC prog_10_method_49_code "java/lang/Integer" 1 0 0 (some .int) X) (σ : gM) (v0 : Int) : GG gctC X 0 [(0, .inl v0)] [] σ (F_Jd_bitCount σ v0) := by
  unfold F_Jd_bitCount
  refine g_iload_n C D_Jd_bitCount_0 rfl 0 rfl ?_
  refine g_iload_n C D_Jd_bitCount_1 rfl 0 rfl ?_
  refine g_iconst C D_Jd_bitCount_2 ⟨by decide, by decide⟩ ?_
  refine g_iushr C D_Jd_bitCount_3 ?_
  refine g_ldcw C D_Jd_bitCount_4 wk_265 ⟨by decide, by decide⟩ ?_
  refine g_iand C D_Jd_bitCount_7 ?_
  refine g_isub C D_Jd_bitCount_8 (fun a1 => ?_)
  refine g_istore_n (L' := [(0, .inl a1)]) C D_Jd_bitCount_9 rfl (by decide) rfl ?_
  refine g_iload_n C D_Jd_bitCount_10 rfl 0 rfl ?_
  refine g_ldcw C D_Jd_bitCount_11 wk_266 ⟨by decide, by decide⟩ ?_
  refine g_iand C D_Jd_bitCount_14 ?_
  refine g_iload_n C D_Jd_bitCount_15 rfl 0 rfl ?_
  refine g_iconst C D_Jd_bitCount_16 ⟨by decide, by decide⟩ ?_
  refine g_iushr C D_Jd_bitCount_17 ?_
  refine g_ldcw C D_Jd_bitCount_18 wk_266 ⟨by decide, by decide⟩ ?_
  refine g_iand C D_Jd_bitCount_21 ?_
  refine g_iadd C D_Jd_bitCount_22 (fun a2 => ?_)
  refine g_istore_n (L' := [(0, .inl a2)]) C D_Jd_bitCount_23 rfl (by decide) rfl ?_
  refine g_iload_n C D_Jd_bitCount_24 rfl 0 rfl ?_
  refine g_iload_n C D_Jd_bitCount_25 rfl 0 rfl ?_
  refine g_iconst C D_Jd_bitCount_26 ⟨by decide, by decide⟩ ?_
  refine g_iushr C D_Jd_bitCount_27 ?_
  refine g_iadd C D_Jd_bitCount_28 (fun a3 => ?_)
  refine g_ldcw C D_Jd_bitCount_29 wk_267 ⟨by decide, by decide⟩ ?_
  refine g_iand C D_Jd_bitCount_32 ?_
  refine g_let C (fun a4 => ?_)
  refine g_istore_n (L' := [(0, .inl a4)]) C D_Jd_bitCount_33 rfl (by decide) rfl ?_
  refine g_iload_n C D_Jd_bitCount_34 rfl 0 rfl ?_
  refine g_iload_n C D_Jd_bitCount_35 rfl 0 rfl ?_
  refine g_bipush C D_Jd_bitCount_36 (by decide) ⟨by decide, by decide⟩ ?_
  refine g_iushr C D_Jd_bitCount_38 ?_
  refine g_iadd C D_Jd_bitCount_39 (fun a5 => ?_)
  refine g_istore_n (L' := [(0, .inl a5)]) C D_Jd_bitCount_40 rfl (by decide) rfl ?_
  refine g_iload_n C D_Jd_bitCount_41 rfl 0 rfl ?_
  refine g_iload_n C D_Jd_bitCount_42 rfl 0 rfl ?_
  refine g_bipush C D_Jd_bitCount_43 (by decide) ⟨by decide, by decide⟩ ?_
  refine g_iushr C D_Jd_bitCount_45 ?_
  refine g_iadd C D_Jd_bitCount_46 (fun a6 => ?_)
  refine g_istore_n (L' := [(0, .inl a6)]) C D_Jd_bitCount_47 rfl (by decide) rfl ?_
  refine g_iload_n C D_Jd_bitCount_48 rfl 0 rfl ?_
  refine g_bipush C D_Jd_bitCount_49 (by decide) ⟨by decide, by decide⟩ ?_
  refine g_iand C D_Jd_bitCount_51 ?_
  exact g_iret C D_Jd_bitCount_52
theorem c_Jd_bitCount {σ : gM} {v0 : Int} {r : gR} (ho : F_Jd_bitCount σ v0 = some r) (hok : gOk [.inl v0]) (hin : gIn gctC σ) : gCt gctC Y_Jd_bitCount prog_10_method_49_code 1 (some .int) 0 0 [.inl v0] σ r := g_entry (by decide) rfl (Nat.le_of_ble_eq_true rfl) ho hok hin (fun X C => w_Jd_bitCount C σ v0)
theorem D_Co_patterns_0 : decode prog_1_method_7_code 0 = .ok (.iload_n 1, 1) := by decide +kernel
theorem D_Co_patterns_1 : decode prog_1_method_7_code 1 = .ok (.bipush 13, 2) := by decide +kernel
theorem D_Co_patterns_3 : decode prog_1_method_7_code 3 = .ok (.invokestatic 56, 3) := by decide +kernel
theorem D_Co_patterns_6 : decode prog_1_method_7_code 6 = .ok (.ifCond .eq 11, 3) := by decide +kernel
theorem D_Co_patterns_9 : decode prog_1_method_7_code 9 = .ok (.iload_n 2, 1) := by decide +kernel
theorem D_Co_patterns_10 : decode prog_1_method_7_code 10 = .ok (.iconst 2, 1) := by decide +kernel
theorem D_Co_patterns_11 : decode prog_1_method_7_code 11 = .ok (.invokestatic 56, 3) := by decide +kernel
theorem D_Co_patterns_14 : decode prog_1_method_7_code 14 = .ok (.ifCond .ne 5, 3) := by decide +kernel
theorem D_Co_patterns_17 : decode prog_1_method_7_code 17 = .ok (.iconst (-1), 1) := by decide +kernel
theorem D_Co_patterns_18 : decode prog_1_method_7_code 18 = .ok (.ireturn, 1) := by decide +kernel
theorem D_Co_patterns_19 : decode prog_1_method_7_code 19 = .ok (.iconst 0, 1) := by decide +kernel
theorem D_Co_patterns_20 : decode prog_1_method_7_code 20 = .ok (.istore_n 3, 1) := by decide +kernel
theorem D_Co_patterns_21 : decode prog_1_method_7_code 21 = .ok (.iconst 0, 1) := by decide +kernel
theorem D_Co_patterns_22 : decode prog_1_method_7_code 22 = .ok (.istore 4, 2) := by decide +kernel
theorem D_Co_patterns_24 : decode prog_1_method_7_code 24 = .ok (.iload 4, 2) := by decide +kernel
theorem D_Co_patterns_26 : decode prog_1_method_7_code 26 = .ok (.sipush 8192, 3) := by decide +kernel
theorem D_Co_patterns_29 : decode prog_1_method_7_code 29 = .ok (.if_icmp .ge 30, 3) := by decide +kernel
theorem D_Co_patterns_32 : decode prog_1_method_7_code 32 = .ok (.iload 4, 2) := by decide +kernel
theorem D_Co_patterns_34 : decode prog_1_method_7_code 34 = .ok (.invokestatic 80, 3) := by decide +kernel
theorem D_Co_patterns_37 : decode prog_1_method_7_code 37 = .ok (.iload_n 1, 1) := by decide +kernel
theorem D_Co_patterns_38 : decode prog_1_method_7_code 38 = .ok (.if_icmp .ne 15, 3) := by decide +kernel
theorem D_Co_patterns_41 : decode prog_1_method_7_code 41 = .ok (.iload 4, 2) := by decide +kernel
theorem D_Co_patterns_43 : decode prog_1_method_7_code 43 = .ok (.invokestatic 85, 3) := by decide +kernel
theorem D_Co_patterns_46 : decode prog_1_method_7_code 46 = .ok (.iload_n 2, 1) := by decide +kernel
theorem D_Co_patterns_47 : decode prog_1_method_7_code 47 = .ok (.if_icmp .ne 6, 3) := by decide +kernel
theorem D_Co_patterns_50 : decode prog_1_method_7_code 50 = .ok (.iinc 3 1, 3) := by decide +kernel
theorem D_Co_patterns_53 : decode prog_1_method_7_code 53 = .ok (.iinc 4 1, 3) := by decide +kernel
theorem D_Co_patterns_56 : decode prog_1_method_7_code 56 = .ok (.goto (-32), 3) := by decide +kernel
theorem D_Co_patterns_59 : decode prog_1_method_7_code 59 = .ok (.iload_n 3, 1) := by decide +kernel
theorem D_Co_patterns_60 : decode prog_1_method_7_code 60 = .ok (.ireturn, 1) := by decide +kernel
def j_Co_patterns_17 (σ : gM) : gO :=
  some (σ, (-1))
set_option maxHeartbeats 4000000 in
theorem wj_Co_patterns_17 {X : gX} (C : gC gctC prog_1_method_7_code kR6 5 2 44 (some .int) X) (σ : gM) : GG gctC X 17 [] [] σ (j_Co_patterns_17 σ) := by
  unfold j_Co_patterns_17
  refine g_iconst C D_Co_patterns_17 ⟨by decide, by decide⟩ ?_
  exact g_iret C D_Co_patterns_18
def j_Co_patterns_53 (rec : gM → Int → Int → gO) (σ : gM) (p1 p2 v3 v4 : Int) : gO :=
  ga (v4 + 1) fun a1 =>
  rec σ v3 a1
set_option maxHeartbeats 4000000 in
theorem wj_Co_patterns_53 {X : gX} (C : gC gctC prog_1_method_7_code kR6 5 2 44 (some .int) X) {p1 p2 : Int} {rec : gM → Int → Int → gO} (hrec : ∀ (σ : gM) (a0 a1 : Int), GG gctC X 24 [(1, .inl p1), (2, .inl p2), (3, .inl a0), (4, .inl a1)] [] σ (rec σ a0 a1)) (σ : gM) (v3 v4 : Int) : GG gctC X 53 [(1, .inl p1), (2, .inl p2), (3, .inl v3), (4, .inl v4)] [] σ (j_Co_patterns_53 rec σ p1 p2 v3 v4) := by
  unfold j_Co_patterns_53
  refine g_iinc (t := 3) (L' := fun z => [(4, .inl z), (1, .inl p1), (2, .inl p2), (3, .inl v3)]) C D_Co_patterns_53 rfl (by decide) (fun _ => rfl) (fun a1 => ?_)
  refine g_goto (tgt := 24) C D_Co_patterns_56 (by decide) ?_
  refine g_sub [1, 2, 3, 0] rfl ?_
  exact hrec _ _ _
def l_Co_patterns_24 (p1 p2 : Int) (rec : gM → Int → Int → gO) (σ : gM) (v3 v4 : Int) : gO :=
  if v4 < 8192 then
  (gk (F_Jd_bitCount σ v4) fun s1 a2 =>
  if a2 = p1 then
  (gk (F_Ce_outcome s1 v4) fun s3 a4 =>
  if a4 = p2 then
  (ga (v3 + 1) fun a5 =>
  j_Co_patterns_53 rec s3 p1 p2 a5 v4)
  else
  (j_Co_patterns_53 rec s3 p1 p2 v3 v4))
  else
  (j_Co_patterns_53 rec s1 p1 p2 v3 v4))
  else
  (some (σ, v3))
set_option maxHeartbeats 4000000 in
theorem wl_Co_patterns_24 {X : gX} (C : gC gctC prog_1_method_7_code kR6 5 2 44 (some .int) X) {p1 p2 : Int} : ∀ (n : Nat) (σ : gM) (a0 a1 : Int), GG gctC X 24 [(1, .inl p1), (2, .inl p2), (3, .inl a0), (4, .inl a1)] [] σ (gl2 (l_Co_patterns_24 p1 p2) n σ a0 a1) := by
  refine gl2_run (P := fun σ a0 a1 o => GG gctC X 24 [(1, .inl p1), (2, .inl p2), (3, .inl a0), (4, .inl a1)] [] σ o) (fun _ _ _ => g_none) (fun rec hrec σ v3 v4 => ?_)
  unfold l_Co_patterns_24
  refine g_iload C D_Co_patterns_24 3 rfl ?_
  refine g_sipush C D_Co_patterns_26 (by decide) ⟨by decide, by decide⟩ ?_
  refine g_icmp_ge (tgt := 59) C D_Co_patterns_29 (by decide) ?_ ?_
  · refine g_iload_n C D_Co_patterns_59 rfl 2 rfl ?_
    exact g_iret C D_Co_patterns_60
  · refine g_iload C D_Co_patterns_32 3 rfl ?_
    refine g_callSi C [.inl v4] [] (Or.inl rfl) rfl (fun _ h1 h2 h3 => c_Jd_bitCount h1 h2 h3) wc_6_80 (by decide) (Nat.le_of_ble_eq_true rfl) D_Co_patterns_34 (fun s1 a2 => ?_)
    refine g_iload_n C D_Co_patterns_37 rfl 0 rfl ?_
    refine g_icmp_ne (tgt := 53) C D_Co_patterns_38 (by decide) ?_ ?_
    · exact wj_Co_patterns_53 C hrec _ _ _
    · refine g_iload C D_Co_patterns_41 3 rfl ?_
      refine g_callSi C [.inl v4] [] (Or.inl rfl) rfl (fun _ h1 h2 h3 => c_Ce_outcome h1 h2 h3) wc_6_85 (by decide) (Nat.le_of_ble_eq_true rfl) D_Co_patterns_43 (fun s3 a4 => ?_)
      refine g_iload_n C D_Co_patterns_46 rfl 1 rfl ?_
      refine g_icmp_ne (tgt := 53) C D_Co_patterns_47 (by decide) ?_ ?_
      · exact wj_Co_patterns_53 C hrec _ _ _
      · refine g_iinc (t := 2) (L' := fun z => [(3, .inl z), (1, .inl p1), (2, .inl p2), (4, .inl v4)]) C D_Co_patterns_50 rfl (by decide) (fun _ => rfl) (fun a5 => ?_)
        refine g_sub [1, 2, 0, 3] rfl ?_
        exact wj_Co_patterns_53 C hrec _ _ _
def F_Co_patterns (σ : gM) (v1 v2 : Int) : gO :=
  gk (F_Co_within σ v1 13) fun s1 a2 =>
  if a2 = 0 then
  (j_Co_patterns_17 s1)
  else
  (gk (F_Co_within s1 v2 2) fun s3 a4 =>
  if a4 = 0 then
  (j_Co_patterns_17 s3)
  else
  (gl2 (l_Co_patterns_24 v1 v2) 8200 s3 0 0))
set_option maxHeartbeats 4000000 in
theorem w_Co_patterns {X : gX} (C : gC gctC prog_1_method_7_code kR6 5 2 44 (some .int) X) (σ : gM) (v1 v2 : Int) : GG gctC X 0 [(0, .inr (.inr 0)), (1, .inl v1), (2, .inl v2)] [] σ (F_Co_patterns σ v1 v2) := by
  unfold F_Co_patterns
  refine g_iload_n C D_Co_patterns_0 rfl 1 rfl ?_
  refine g_bipush C D_Co_patterns_1 (by decide) ⟨by decide, by decide⟩ ?_
  refine g_callSi C [.inl v1, .inl 13] [] (Or.inr rfl) rfl (fun _ h1 h2 h3 => c_Co_within h1 h2 h3) wc_6_56 (by decide) (Nat.le_of_ble_eq_true rfl) D_Co_patterns_3 (fun s1 a2 => ?_)
  refine g_if_eq (tgt := 17) C D_Co_patterns_6 (by decide) ?_ ?_
  · refine g_sub [] rfl ?_
    exact wj_Co_patterns_17 C _
  · refine g_iload_n C D_Co_patterns_9 rfl 2 rfl ?_
    refine g_iconst C D_Co_patterns_10 ⟨by decide, by decide⟩ ?_
    refine g_callSi C [.inl v2, .inl 2] [] (Or.inr rfl) rfl (fun _ h1 h2 h3 => c_Co_within h1 h2 h3) wc_6_56 (by decide) (Nat.le_of_ble_eq_true rfl) D_Co_patterns_11 (fun s3 a4 => ?_)
    refine g_if_ne (tgt := 19) C D_Co_patterns_14 (by decide) ?_ ?_
    · refine g_iconst C D_Co_patterns_19 ⟨by decide, by decide⟩ ?_
      refine g_istore_n (L' := [(3, .inl 0), (0, .inr (.inr 0)), (1, .inl v1), (2, .inl v2)]) C D_Co_patterns_20 rfl (by decide) rfl ?_
      refine g_iconst C D_Co_patterns_21 ⟨by decide, by decide⟩ ?_
      refine g_istore (L' := [(4, .inl 0), (3, .inl 0), (0, .inr (.inr 0)), (1, .inl v1), (2, .inl v2)]) C D_Co_patterns_22 (by decide) rfl ?_
      refine g_sub [3, 4, 1, 0] rfl ?_
      exact wl_Co_patterns_24 C 8200 _ _ _
    · refine g_sub [] rfl ?_
      exact wj_Co_patterns_17 C _
theorem c_Co_patterns {σ : gM} {v1 v2 : Int} {r : gR} (ho : F_Co_patterns σ v1 v2 = some r) (hok : gOk [.inr (.inr 0), .inl v1, .inl v2]) (hin : gIn gctC σ) : gCt gctC Y_Co_patterns prog_1_method_7_code 5 (some .int) 2 44 [.inr (.inr 0), .inl v1, .inl v2] σ r := g_entry (by decide) rfl (Nat.le_of_ble_eq_true rfl) ho hok hin (fun X C => w_Co_patterns C σ v1 v2)
theorem D_Co_lines_0 : decode prog_1_method_8_code 0 = .ok (.iload_n 1, 1) := by decide +kernel
theorem D_Co_lines_1 : decode prog_1_method_8_code 1 = .ok (.iconst 1, 1) := by decide +kernel
theorem D_Co_lines_2 : decode prog_1_method_8_code 2 = .ok (.if_icmp .eq 15, 3) := by decide +kernel
theorem D_Co_lines_5 : decode prog_1_method_8_code 5 = .ok (.iload_n 1, 1) := by decide +kernel
theorem D_Co_lines_6 : decode prog_1_method_8_code 6 = .ok (.iconst 2, 1) := by decide +kernel
theorem D_Co_lines_7 : decode prog_1_method_8_code 7 = .ok (.if_icmp .eq 10, 3) := by decide +kernel
theorem D_Co_lines_10 : decode prog_1_method_8_code 10 = .ok (.iload_n 1, 1) := by decide +kernel
theorem D_Co_lines_11 : decode prog_1_method_8_code 11 = .ok (.iconst 4, 1) := by decide +kernel
theorem D_Co_lines_12 : decode prog_1_method_8_code 12 = .ok (.if_icmp .eq 5, 3) := by decide +kernel
theorem D_Co_lines_15 : decode prog_1_method_8_code 15 = .ok (.iconst (-1), 1) := by decide +kernel
theorem D_Co_lines_16 : decode prog_1_method_8_code 16 = .ok (.ireturn, 1) := by decide +kernel
theorem D_Co_lines_17 : decode prog_1_method_8_code 17 = .ok (.iload_n 2, 1) := by decide +kernel
theorem D_Co_lines_18 : decode prog_1_method_8_code 18 = .ok (.iconst 1, 1) := by decide +kernel
theorem D_Co_lines_19 : decode prog_1_method_8_code 19 = .ok (.if_icmp .lt 8, 3) := by decide +kernel
theorem D_Co_lines_22 : decode prog_1_method_8_code 22 = .ok (.iload_n 2, 1) := by decide +kernel
theorem D_Co_lines_23 : decode prog_1_method_8_code 23 = .ok (.iconst 4, 1) := by decide +kernel
theorem D_Co_lines_24 : decode prog_1_method_8_code 24 = .ok (.if_icmp .le 5, 3) := by decide +kernel
theorem D_Co_lines_27 : decode prog_1_method_8_code 27 = .ok (.iconst (-1), 1) := by decide +kernel
theorem D_Co_lines_28 : decode prog_1_method_8_code 28 = .ok (.ireturn, 1) := by decide +kernel
theorem D_Co_lines_29 : decode prog_1_method_8_code 29 = .ok (.aload_n 0, 1) := by decide +kernel
theorem D_Co_lines_30 : decode prog_1_method_8_code 30 = .ok (.getfield 34, 3) := by decide +kernel
theorem D_Co_lines_33 : decode prog_1_method_8_code 33 = .ok (.iload_n 1, 1) := by decide +kernel
theorem D_Co_lines_34 : decode prog_1_method_8_code 34 = .ok (.iload_n 2, 1) := by decide +kernel
theorem D_Co_lines_35 : decode prog_1_method_8_code 35 = .ok (.invokevirtual 88, 3) := by decide +kernel
theorem D_Co_lines_38 : decode prog_1_method_8_code 38 = .ok (.iload_n 1, 1) := by decide +kernel
theorem D_Co_lines_39 : decode prog_1_method_8_code 39 = .ok (.iload_n 2, 1) := by decide +kernel
theorem D_Co_lines_40 : decode prog_1_method_8_code 40 = .ok (.imul, 1) := by decide +kernel
theorem D_Co_lines_41 : decode prog_1_method_8_code 41 = .ok (.ireturn, 1) := by decide +kernel
def j_Co_lines_27 (σ : gM) : gO :=
  some (σ, (-1))
set_option maxHeartbeats 4000000 in
theorem wj_Co_lines_27 {X : gX} (C : gC gctC prog_1_method_8_code kR6 3 4 98 (some .int) X) (σ : gM) : GG gctC X 27 [] [] σ (j_Co_lines_27 σ) := by
  unfold j_Co_lines_27
  refine g_iconst C D_Co_lines_27 ⟨by decide, by decide⟩ ?_
  exact g_iret C D_Co_lines_28
def j_Co_lines_17 (σ : gM) (v1 v2 : Int) : gO :=
  if v2 < 1 then
  (j_Co_lines_27 σ)
  else
  (if 4 < v2 then
  (j_Co_lines_27 σ)
  else
  (gk (F_Ca_reshape σ v1 v2) fun s1 _ =>
  ga (v1 * v2) fun a2 =>
  some (s1, a2)))
set_option maxHeartbeats 4000000 in
theorem wj_Co_lines_17 {X : gX} (C : gC gctC prog_1_method_8_code kR6 3 4 98 (some .int) X) (σ : gM) (v1 v2 : Int) : GG gctC X 17 [(0, .inr (.inr 0)), (1, .inl v1), (2, .inl v2)] [] σ (j_Co_lines_17 σ v1 v2) := by
  unfold j_Co_lines_17
  refine g_iload_n C D_Co_lines_17 rfl 2 rfl ?_
  refine g_iconst C D_Co_lines_18 ⟨by decide, by decide⟩ ?_
  refine g_icmp_lt (tgt := 27) C D_Co_lines_19 (by decide) ?_ ?_
  · refine g_sub [] rfl ?_
    exact wj_Co_lines_27 C _
  · refine g_iload_n C D_Co_lines_22 rfl 2 rfl ?_
    refine g_iconst C D_Co_lines_23 ⟨by decide, by decide⟩ ?_
    refine g_icmp_le (tgt := 29) C D_Co_lines_24 (by decide) ?_ ?_
    · refine g_aload_n C D_Co_lines_29 rfl 0 rfl ?_
      refine g_getr (ci := 6) C 3 rfl kI6 rfl (by decide) rfl rfl wf_6_34 D_Co_lines_30 ?_
      refine g_iload_n C D_Co_lines_33 rfl 1 rfl ?_
      refine g_iload_n C D_Co_lines_34 rfl 2 rfl ?_
      refine g_callVv (ci := 0) C [.inl v1, .inl v2] [] rfl rfl (fun _ h1 h2 h3 => c_Ca_reshape h1 h2 h3) rfl rfl wc_6_88 (by decide) (Nat.le_of_ble_eq_true rfl) D_Co_lines_35 (fun s1 _ => ?_)
      refine g_iload_n C D_Co_lines_38 rfl 1 rfl ?_
      refine g_iload_n C D_Co_lines_39 rfl 2 rfl ?_
      refine g_imul C D_Co_lines_40 (fun a2 => ?_)
      exact g_iret C D_Co_lines_41
    · refine g_sub [] rfl ?_
      exact wj_Co_lines_27 C _
def F_Co_lines (σ : gM) (v1 v2 : Int) : gO :=
  if v1 = 1 then
  (j_Co_lines_17 σ v1 v2)
  else
  (if v1 = 2 then
  (j_Co_lines_17 σ v1 v2)
  else
  (if v1 = 4 then
  (j_Co_lines_17 σ v1 v2)
  else
  (some (σ, (-1)))))
set_option maxHeartbeats 4000000 in
theorem w_Co_lines {X : gX} (C : gC gctC prog_1_method_8_code kR6 3 4 98 (some .int) X) (σ : gM) (v1 v2 : Int) : GG gctC X 0 [(0, .inr (.inr 0)), (1, .inl v1), (2, .inl v2)] [] σ (F_Co_lines σ v1 v2) := by
  unfold F_Co_lines
  refine g_iload_n C D_Co_lines_0 rfl 1 rfl ?_
  refine g_iconst C D_Co_lines_1 ⟨by decide, by decide⟩ ?_
  refine g_icmp_eq (tgt := 17) C D_Co_lines_2 (by decide) ?_ ?_
  · exact wj_Co_lines_17 C _ _ _
  · refine g_iload_n C D_Co_lines_5 rfl 1 rfl ?_
    refine g_iconst C D_Co_lines_6 ⟨by decide, by decide⟩ ?_
    refine g_icmp_eq (tgt := 17) C D_Co_lines_7 (by decide) ?_ ?_
    · exact wj_Co_lines_17 C _ _ _
    · refine g_iload_n C D_Co_lines_10 rfl 1 rfl ?_
      refine g_iconst C D_Co_lines_11 ⟨by decide, by decide⟩ ?_
      refine g_icmp_eq (tgt := 17) C D_Co_lines_12 (by decide) ?_ ?_
      · exact wj_Co_lines_17 C _ _ _
      · refine g_iconst C D_Co_lines_15 ⟨by decide, by decide⟩ ?_
        exact g_iret C D_Co_lines_16
theorem c_Co_lines {σ : gM} {v1 v2 : Int} {r : gR} (ho : F_Co_lines σ v1 v2 = some r) (hok : gOk [.inr (.inr 0), .inl v1, .inl v2]) (hin : gIn gctC σ) : gCt gctC Y_Co_lines prog_1_method_8_code 3 (some .int) 4 98 [.inr (.inr 0), .inl v1, .inl v2] σ r := g_entry (by decide) rfl (Nat.le_of_ble_eq_true rfl) ho hok hin (fun X C => w_Co_lines C σ v1 v2)
theorem D_Co_rule_0 : decode prog_1_method_9_code 0 = .ok (.iload_n 1, 1) := by decide +kernel
theorem D_Co_rule_1 : decode prog_1_method_9_code 1 = .ok (.iconst 3, 1) := by decide +kernel
theorem D_Co_rule_2 : decode prog_1_method_9_code 2 = .ok (.invokestatic 56, 3) := by decide +kernel
theorem D_Co_rule_5 : decode prog_1_method_9_code 5 = .ok (.ifCond .eq 15, 3) := by decide +kernel
theorem D_Co_rule_8 : decode prog_1_method_9_code 8 = .ok (.iload_n 2, 1) := by decide +kernel
theorem D_Co_rule_9 : decode prog_1_method_9_code 9 = .ok (.getstatic 92, 3) := by decide +kernel
theorem D_Co_rule_12 : decode prog_1_method_9_code 12 = .ok (.iload_n 1, 1) := by decide +kernel
theorem D_Co_rule_13 : decode prog_1_method_9_code 13 = .ok (.iaload, 1) := by decide +kernel
theorem D_Co_rule_14 : decode prog_1_method_9_code 14 = .ok (.invokestatic 56, 3) := by decide +kernel
theorem D_Co_rule_17 : decode prog_1_method_9_code 17 = .ok (.ifCond .ne 5, 3) := by decide +kernel
theorem D_Co_rule_20 : decode prog_1_method_9_code 20 = .ok (.iconst (-1), 1) := by decide +kernel
theorem D_Co_rule_21 : decode prog_1_method_9_code 21 = .ok (.ireturn, 1) := by decide +kernel
theorem D_Co_rule_22 : decode prog_1_method_9_code 22 = .ok (.aload_n 0, 1) := by decide +kernel
theorem D_Co_rule_23 : decode prog_1_method_9_code 23 = .ok (.getfield 7, 3) := by decide +kernel
theorem D_Co_rule_26 : decode prog_1_method_9_code 26 = .ok (.iload_n 1, 1) := by decide +kernel
theorem D_Co_rule_27 : decode prog_1_method_9_code 27 = .ok (.iaload, 1) := by decide +kernel
theorem D_Co_rule_28 : decode prog_1_method_9_code 28 = .ok (.istore_n 3, 1) := by decide +kernel
theorem D_Co_rule_29 : decode prog_1_method_9_code 29 = .ok (.aload_n 0, 1) := by decide +kernel
theorem D_Co_rule_30 : decode prog_1_method_9_code 30 = .ok (.getfield 7, 3) := by decide +kernel
theorem D_Co_rule_33 : decode prog_1_method_9_code 33 = .ok (.iload_n 1, 1) := by decide +kernel
theorem D_Co_rule_34 : decode prog_1_method_9_code 34 = .ok (.iload_n 2, 1) := by decide +kernel
theorem D_Co_rule_35 : decode prog_1_method_9_code 35 = .ok (.iastore, 1) := by decide +kernel
theorem D_Co_rule_36 : decode prog_1_method_9_code 36 = .ok (.iload_n 3, 1) := by decide +kernel
theorem D_Co_rule_37 : decode prog_1_method_9_code 37 = .ok (.ireturn, 1) := by decide +kernel
def j_Co_rule_20 (σ : gM) : gO :=
  some (σ, (-1))
set_option maxHeartbeats 4000000 in
theorem wj_Co_rule_20 {X : gX} (C : gC gctC prog_1_method_9_code kR6 4 1 21 (some .int) X) (σ : gM) : GG gctC X 20 [] [] σ (j_Co_rule_20 σ) := by
  unfold j_Co_rule_20
  refine g_iconst C D_Co_rule_20 ⟨by decide, by decide⟩ ?_
  exact g_iret C D_Co_rule_21
def F_Co_rule (σ : gM) (v1 v2 : Int) : gO :=
  gk (F_Co_within σ v1 3) fun s1 a2 =>
  if a2 = 0 then
  (j_Co_rule_20 s1)
  else
  (gi v1 4 <|
  gk (F_Co_within s1 v2 (gHR v1)) fun s3 a4 =>
  if a4 = 0 then
  (j_Co_rule_20 s3)
  else
  (gi v1 4 <|
  gv (s3 1 v1) fun a5 =>
  gw s3 1 4 v1 v2 fun s6 =>
  some (s6, a5)))
set_option maxHeartbeats 4000000 in
theorem w_Co_rule {X : gX} (C : gC gctC prog_1_method_9_code kR6 4 1 21 (some .int) X) (σ : gM) (v1 v2 : Int) : GG gctC X 0 [(0, .inr (.inr 0)), (1, .inl v1), (2, .inl v2)] [] σ (F_Co_rule σ v1 v2) := by
  unfold F_Co_rule
  refine g_iload_n C D_Co_rule_0 rfl 1 rfl ?_
  refine g_iconst C D_Co_rule_1 ⟨by decide, by decide⟩ ?_
  refine g_callSi C [.inl v1, .inl 3] [] (Or.inr rfl) rfl (fun _ h1 h2 h3 => c_Co_within h1 h2 h3) wc_6_56 (by decide) (Nat.le_of_ble_eq_true rfl) D_Co_rule_2 (fun s1 a2 => ?_)
  refine g_if_eq (tgt := 20) C D_Co_rule_5 (by decide) ?_ ?_
  · refine g_sub [] rfl ?_
    exact wj_Co_rule_20 C _
  · refine g_iload_n C D_Co_rule_8 rfl 2 rfl ?_
    refine g_getsH C wf_6_92 D_Co_rule_9 ?_
    refine g_iload_n C D_Co_rule_12 rfl 1 rfl ?_
    refine g_ialdH C D_Co_rule_13 ?_
    refine g_callSi C [.inl v2, .inl (gHR v1)] [] (Or.inr rfl) rfl (fun _ h1 h2 h3 => c_Co_within h1 h2 h3) wc_6_56 (by decide) (Nat.le_of_ble_eq_true rfl) D_Co_rule_14 (fun s3 a4 => ?_)
    refine g_if_ne (tgt := 22) C D_Co_rule_17 (by decide) ?_ ?_
    · refine g_aload_n C D_Co_rule_22 rfl 0 rfl ?_
      refine g_getr (ci := 6) C 0 rfl kI6 rfl (by decide) rfl rfl wf_6_7 D_Co_rule_23 ?_
      refine g_iload_n C D_Co_rule_26 rfl 1 rfl ?_
      refine g_iald C rfl rfl rfl D_Co_rule_27 ?_
      refine g_let C (fun a5 => ?_)
      refine g_istore_n (L' := [(3, .inl a5), (0, .inr (.inr 0)), (1, .inl v1), (2, .inl v2)]) C D_Co_rule_28 rfl (by decide) rfl ?_
      refine g_aload_n C D_Co_rule_29 rfl 1 rfl ?_
      refine g_getr (ci := 6) C 0 rfl kI6 rfl (by decide) rfl rfl wf_6_7 D_Co_rule_30 ?_
      refine g_iload_n C D_Co_rule_33 rfl 2 rfl ?_
      refine g_iload_n C D_Co_rule_34 rfl 3 rfl ?_
      refine g_iast C rfl rfl D_Co_rule_35 (fun s6 => ?_)
      refine g_iload_n C D_Co_rule_36 rfl 0 rfl ?_
      exact g_iret C D_Co_rule_37
    · refine g_sub [] rfl ?_
      exact wj_Co_rule_20 C _
theorem c_Co_rule {σ : gM} {v1 v2 : Int} {r : gR} (ho : F_Co_rule σ v1 v2 = some r) (hok : gOk [.inr (.inr 0), .inl v1, .inl v2]) (hin : gIn gctC σ) : gCt gctC Y_Co_rule prog_1_method_9_code 4 (some .int) 1 21 [.inr (.inr 0), .inl v1, .inl v2] σ r := g_entry (by decide) rfl (Nat.le_of_ble_eq_true rfl) ho hok hin (fun X C => w_Co_rule C σ v1 v2)
theorem D_Co_line_0 : decode prog_1_method_10_code 0 = .ok (.iload_n 1, 1) := by decide +kernel
theorem D_Co_line_1 : decode prog_1_method_10_code 1 = .ok (.iconst 1, 1) := by decide +kernel
theorem D_Co_line_2 : decode prog_1_method_10_code 2 = .ok (.invokestatic 56, 3) := by decide +kernel
theorem D_Co_line_5 : decode prog_1_method_10_code 5 = .ok (.ifCond .eq 12, 3) := by decide +kernel
theorem D_Co_line_8 : decode prog_1_method_10_code 8 = .ok (.iload_n 2, 1) := by decide +kernel
theorem D_Co_line_9 : decode prog_1_method_10_code 9 = .ok (.bipush 63, 2) := by decide +kernel
theorem D_Co_line_11 : decode prog_1_method_10_code 11 = .ok (.invokestatic 56, 3) := by decide +kernel
theorem D_Co_line_14 : decode prog_1_method_10_code 14 = .ok (.ifCond .ne 5, 3) := by decide +kernel
theorem D_Co_line_17 : decode prog_1_method_10_code 17 = .ok (.iconst (-1), 1) := by decide +kernel
theorem D_Co_line_18 : decode prog_1_method_10_code 18 = .ok (.ireturn, 1) := by decide +kernel
theorem D_Co_line_19 : decode prog_1_method_10_code 19 = .ok (.aload_n 0, 1) := by decide +kernel
theorem D_Co_line_20 : decode prog_1_method_10_code 20 = .ok (.getfield 34, 3) := by decide +kernel
theorem D_Co_line_23 : decode prog_1_method_10_code 23 = .ok (.getfield 95, 3) := by decide +kernel
theorem D_Co_line_26 : decode prog_1_method_10_code 26 = .ok (.iload_n 1, 1) := by decide +kernel
theorem D_Co_line_27 : decode prog_1_method_10_code 27 = .ok (.bipush 64, 2) := by decide +kernel
theorem D_Co_line_29 : decode prog_1_method_10_code 29 = .ok (.imul, 1) := by decide +kernel
theorem D_Co_line_30 : decode prog_1_method_10_code 30 = .ok (.iload_n 2, 1) := by decide +kernel
theorem D_Co_line_31 : decode prog_1_method_10_code 31 = .ok (.iadd, 1) := by decide +kernel
theorem D_Co_line_32 : decode prog_1_method_10_code 32 = .ok (.iaload, 1) := by decide +kernel
theorem D_Co_line_33 : decode prog_1_method_10_code 33 = .ok (.ireturn, 1) := by decide +kernel
def j_Co_line_17 (σ : gM) : gO :=
  some (σ, (-1))
set_option maxHeartbeats 4000000 in
theorem wj_Co_line_17 {X : gX} (C : gC gctC prog_1_method_10_code kR6 3 1 21 (some .int) X) (σ : gM) : GG gctC X 17 [] [] σ (j_Co_line_17 σ) := by
  unfold j_Co_line_17
  refine g_iconst C D_Co_line_17 ⟨by decide, by decide⟩ ?_
  exact g_iret C D_Co_line_18
def F_Co_line (σ : gM) (v1 v2 : Int) : gO :=
  gk (F_Co_within σ v1 1) fun s1 a2 =>
  if a2 = 0 then
  (j_Co_line_17 s1)
  else
  (gk (F_Co_within s1 v2 63) fun s3 a4 =>
  if a4 = 0 then
  (j_Co_line_17 s3)
  else
  (ga (v1 * 64) fun a5 =>
  ga (a5 + v2) fun a6 =>
  gi a6 128 <|
  some (s3, (s3 10 a6))))
set_option maxHeartbeats 4000000 in
theorem w_Co_line {X : gX} (C : gC gctC prog_1_method_10_code kR6 3 1 21 (some .int) X) (σ : gM) (v1 v2 : Int) : GG gctC X 0 [(0, .inr (.inr 0)), (1, .inl v1), (2, .inl v2)] [] σ (F_Co_line σ v1 v2) := by
  unfold F_Co_line
  refine g_iload_n C D_Co_line_0 rfl 1 rfl ?_
  refine g_iconst C D_Co_line_1 ⟨by decide, by decide⟩ ?_
  refine g_callSi C [.inl v1, .inl 1] [] (Or.inr rfl) rfl (fun _ h1 h2 h3 => c_Co_within h1 h2 h3) wc_6_56 (by decide) (Nat.le_of_ble_eq_true rfl) D_Co_line_2 (fun s1 a2 => ?_)
  refine g_if_eq (tgt := 17) C D_Co_line_5 (by decide) ?_ ?_
  · refine g_sub [] rfl ?_
    exact wj_Co_line_17 C _
  · refine g_iload_n C D_Co_line_8 rfl 2 rfl ?_
    refine g_bipush C D_Co_line_9 (by decide) ⟨by decide, by decide⟩ ?_
    refine g_callSi C [.inl v2, .inl 63] [] (Or.inr rfl) rfl (fun _ h1 h2 h3 => c_Co_within h1 h2 h3) wc_6_56 (by decide) (Nat.le_of_ble_eq_true rfl) D_Co_line_11 (fun s3 a4 => ?_)
    refine g_if_ne (tgt := 19) C D_Co_line_14 (by decide) ?_ ?_
    · refine g_aload_n C D_Co_line_19 rfl 0 rfl ?_
      refine g_getr (ci := 6) C 3 rfl kI6 rfl (by decide) rfl rfl wf_6_34 D_Co_line_20 ?_
      refine g_getr (ci := 0) C 0 rfl kI0 rfl (by decide) rfl rfl wf_6_95 D_Co_line_23 ?_
      refine g_iload_n C D_Co_line_26 rfl 1 rfl ?_
      refine g_bipush C D_Co_line_27 (by decide) ⟨by decide, by decide⟩ ?_
      refine g_imul C D_Co_line_29 (fun a5 => ?_)
      refine g_iload_n C D_Co_line_30 rfl 2 rfl ?_
      refine g_iadd C D_Co_line_31 (fun a6 => ?_)
      refine g_iald C rfl rfl rfl D_Co_line_32 ?_
      exact g_iret C D_Co_line_33
    · refine g_sub [] rfl ?_
      exact wj_Co_line_17 C _
theorem c_Co_line {σ : gM} {v1 v2 : Int} {r : gR} (ho : F_Co_line σ v1 v2 = some r) (hok : gOk [.inr (.inr 0), .inl v1, .inl v2]) (hin : gIn gctC σ) : gCt gctC Y_Co_line prog_1_method_10_code 3 (some .int) 1 21 [.inr (.inr 0), .inl v1, .inl v2] σ r := g_entry (by decide) rfl (Nat.le_of_ble_eq_true rfl) ho hok hin (fun X C => w_Co_line C σ v1 v2)
theorem D_Co_frames_0 : decode prog_1_method_11_code 0 = .ok (.iload_n 1, 1) := by decide +kernel
theorem D_Co_frames_1 : decode prog_1_method_11_code 1 = .ok (.iconst 1, 1) := by decide +kernel
theorem D_Co_frames_2 : decode prog_1_method_11_code 2 = .ok (.if_icmp .lt 9, 3) := by decide +kernel
theorem D_Co_frames_5 : decode prog_1_method_11_code 5 = .ok (.iload_n 1, 1) := by decide +kernel
theorem D_Co_frames_6 : decode prog_1_method_11_code 6 = .ok (.bipush 16, 2) := by decide +kernel
theorem D_Co_frames_8 : decode prog_1_method_11_code 8 = .ok (.if_icmp .le 5, 3) := by decide +kernel
theorem D_Co_frames_11 : decode prog_1_method_11_code 11 = .ok (.iconst (-1), 1) := by decide +kernel
theorem D_Co_frames_12 : decode prog_1_method_11_code 12 = .ok (.ireturn, 1) := by decide +kernel
theorem D_Co_frames_13 : decode prog_1_method_11_code 13 = .ok (.aload_n 0, 1) := by decide +kernel
theorem D_Co_frames_14 : decode prog_1_method_11_code 14 = .ok (.getfield 43, 3) := by decide +kernel
theorem D_Co_frames_17 : decode prog_1_method_11_code 17 = .ok (.getfield 98, 3) := by decide +kernel
theorem D_Co_frames_20 : decode prog_1_method_11_code 20 = .ok (.istore_n 2, 1) := by decide +kernel
theorem D_Co_frames_21 : decode prog_1_method_11_code 21 = .ok (.aload_n 0, 1) := by decide +kernel
theorem D_Co_frames_22 : decode prog_1_method_11_code 22 = .ok (.getfield 43, 3) := by decide +kernel
theorem D_Co_frames_25 : decode prog_1_method_11_code 25 = .ok (.iload_n 1, 1) := by decide +kernel
theorem D_Co_frames_26 : decode prog_1_method_11_code 26 = .ok (.invokevirtual 101, 3) := by decide +kernel
theorem D_Co_frames_29 : decode prog_1_method_11_code 29 = .ok (.iload_n 2, 1) := by decide +kernel
theorem D_Co_frames_30 : decode prog_1_method_11_code 30 = .ok (.ireturn, 1) := by decide +kernel
def j_Co_frames_11 (σ : gM) : gO :=
  some (σ, (-1))
set_option maxHeartbeats 4000000 in
theorem wj_Co_frames_11 {X : gX} (C : gC gctC prog_1_method_11_code kR6 3 5 122 (some .int) X) (σ : gM) : GG gctC X 11 [] [] σ (j_Co_frames_11 σ) := by
  unfold j_Co_frames_11
  refine g_iconst C D_Co_frames_11 ⟨by decide, by decide⟩ ?_
  exact g_iret C D_Co_frames_12
def F_Co_frames (σ : gM) (v1 : Int) : gO :=
  if v1 < 1 then
  (j_Co_frames_11 σ)
  else
  (if 16 < v1 then
  (j_Co_frames_11 σ)
  else
  (gv (σ 17 0) fun a1 =>
  gk (F_Me_resize σ v1) fun s2 _ =>
  some (s2, a1)))
set_option maxHeartbeats 4000000 in
theorem w_Co_frames {X : gX} (C : gC gctC prog_1_method_11_code kR6 3 5 122 (some .int) X) (σ : gM) (v1 : Int) : GG gctC X 0 [(0, .inr (.inr 0)), (1, .inl v1)] [] σ (F_Co_frames σ v1) := by
  unfold F_Co_frames
  refine g_iload_n C D_Co_frames_0 rfl 1 rfl ?_
  refine g_iconst C D_Co_frames_1 ⟨by decide, by decide⟩ ?_
  refine g_icmp_lt (tgt := 11) C D_Co_frames_2 (by decide) ?_ ?_
  · refine g_sub [] rfl ?_
    exact wj_Co_frames_11 C _
  · refine g_iload_n C D_Co_frames_5 rfl 1 rfl ?_
    refine g_bipush C D_Co_frames_6 (by decide) ⟨by decide, by decide⟩ ?_
    refine g_icmp_le (tgt := 13) C D_Co_frames_8 (by decide) ?_ ?_
    · refine g_aload_n C D_Co_frames_13 rfl 0 rfl ?_
      refine g_getr (ci := 6) C 4 rfl kI6 rfl (by decide) rfl rfl wf_6_43 D_Co_frames_14 ?_
      refine g_get (ci := 4) C 0 (jz := 0) rfl rfl kI4 rfl (by decide) rfl rfl wf_6_98 rfl D_Co_frames_17 ?_
      refine g_let C (fun a1 => ?_)
      refine g_istore_n (L' := [(2, .inl a1), (0, .inr (.inr 0)), (1, .inl v1)]) C D_Co_frames_20 rfl (by decide) rfl ?_
      refine g_aload_n C D_Co_frames_21 rfl 1 rfl ?_
      refine g_getr (ci := 6) C 4 rfl kI6 rfl (by decide) rfl rfl wf_6_43 D_Co_frames_22 ?_
      refine g_iload_n C D_Co_frames_25 rfl 2 rfl ?_
      refine g_callVv (ci := 4) C [.inl v1] [] rfl rfl (fun _ h1 h2 h3 => c_Me_resize h1 h2 h3) rfl rfl wc_6_101 (by decide) (Nat.le_of_ble_eq_true rfl) D_Co_frames_26 (fun s2 _ => ?_)
      refine g_iload_n C D_Co_frames_29 rfl 0 rfl ?_
      exact g_iret C D_Co_frames_30
    · refine g_sub [] rfl ?_
      exact wj_Co_frames_11 C _
theorem c_Co_frames {σ : gM} {v1 : Int} {r : gR} (ho : F_Co_frames σ v1 = some r) (hok : gOk [.inr (.inr 0), .inl v1]) (hin : gIn gctC σ) : gCt gctC Y_Co_frames prog_1_method_11_code 3 (some .int) 5 122 [.inr (.inr 0), .inl v1] σ r := g_entry (by decide) rfl (Nat.le_of_ble_eq_true rfl) ho hok hin (fun X C => w_Co_frames C σ v1)
theorem D_Co_page_0 : decode prog_1_method_12_code 0 = .ok (.iload_n 1, 1) := by decide +kernel
theorem D_Co_page_1 : decode prog_1_method_12_code 1 = .ok (.bipush 31, 2) := by decide +kernel
theorem D_Co_page_3 : decode prog_1_method_12_code 3 = .ok (.invokestatic 56, 3) := by decide +kernel
theorem D_Co_page_6 : decode prog_1_method_12_code 6 = .ok (.ifCond .eq 11, 3) := by decide +kernel
theorem D_Co_page_9 : decode prog_1_method_12_code 9 = .ok (.iload_n 2, 1) := by decide +kernel
theorem D_Co_page_10 : decode prog_1_method_12_code 10 = .ok (.iconst 1, 1) := by decide +kernel
theorem D_Co_page_11 : decode prog_1_method_12_code 11 = .ok (.invokestatic 56, 3) := by decide +kernel
theorem D_Co_page_14 : decode prog_1_method_12_code 14 = .ok (.ifCond .ne 5, 3) := by decide +kernel
theorem D_Co_page_17 : decode prog_1_method_12_code 17 = .ok (.iconst (-1), 1) := by decide +kernel
theorem D_Co_page_18 : decode prog_1_method_12_code 18 = .ok (.ireturn, 1) := by decide +kernel
theorem D_Co_page_19 : decode prog_1_method_12_code 19 = .ok (.iload_n 2, 1) := by decide +kernel
theorem D_Co_page_20 : decode prog_1_method_12_code 20 = .ok (.ifCond .ne 13, 3) := by decide +kernel
theorem D_Co_page_23 : decode prog_1_method_12_code 23 = .ok (.aload_n 0, 1) := by decide +kernel
theorem D_Co_page_24 : decode prog_1_method_12_code 24 = .ok (.getfield 43, 3) := by decide +kernel
theorem D_Co_page_27 : decode prog_1_method_12_code 27 = .ok (.getfield 105, 3) := by decide +kernel
theorem D_Co_page_30 : decode prog_1_method_12_code 30 = .ok (.iload_n 1, 1) := by decide +kernel
theorem D_Co_page_31 : decode prog_1_method_12_code 31 = .ok (.iaload, 1) := by decide +kernel
theorem D_Co_page_32 : decode prog_1_method_12_code 32 = .ok (.ireturn, 1) := by decide +kernel
theorem D_Co_page_33 : decode prog_1_method_12_code 33 = .ok (.aload_n 0, 1) := by decide +kernel
theorem D_Co_page_34 : decode prog_1_method_12_code 34 = .ok (.getfield 43, 3) := by decide +kernel
theorem D_Co_page_37 : decode prog_1_method_12_code 37 = .ok (.getfield 108, 3) := by decide +kernel
theorem D_Co_page_40 : decode prog_1_method_12_code 40 = .ok (.iload_n 1, 1) := by decide +kernel
theorem D_Co_page_41 : decode prog_1_method_12_code 41 = .ok (.baload, 1) := by decide +kernel
theorem D_Co_page_42 : decode prog_1_method_12_code 42 = .ok (.ifCond .eq 7, 3) := by decide +kernel
theorem D_Co_page_45 : decode prog_1_method_12_code 45 = .ok (.iconst 1, 1) := by decide +kernel
theorem D_Co_page_46 : decode prog_1_method_12_code 46 = .ok (.goto 4, 3) := by decide +kernel
theorem D_Co_page_49 : decode prog_1_method_12_code 49 = .ok (.iconst 0, 1) := by decide +kernel
theorem D_Co_page_50 : decode prog_1_method_12_code 50 = .ok (.ireturn, 1) := by decide +kernel
def j_Co_page_17 (σ : gM) : gO :=
  some (σ, (-1))
set_option maxHeartbeats 4000000 in
theorem wj_Co_page_17 {X : gX} (C : gC gctC prog_1_method_12_code kR6 3 1 21 (some .int) X) (σ : gM) : GG gctC X 17 [] [] σ (j_Co_page_17 σ) := by
  unfold j_Co_page_17
  refine g_iconst C D_Co_page_17 ⟨by decide, by decide⟩ ?_
  exact g_iret C D_Co_page_18
def j_Co_page_50 (σ : gM) (t0 : Int) : gO :=
  some (σ, t0)
set_option maxHeartbeats 4000000 in
theorem wj_Co_page_50 {X : gX} (C : gC gctC prog_1_method_12_code kR6 3 1 21 (some .int) X) (σ : gM) (t0 : Int) : GG gctC X 50 [] [.inl t0] σ (j_Co_page_50 σ t0) := by
  unfold j_Co_page_50
  exact g_iret C D_Co_page_50
def F_Co_page (σ : gM) (v1 v2 : Int) : gO :=
  gk (F_Co_within σ v1 31) fun s1 a2 =>
  if a2 = 0 then
  (j_Co_page_17 s1)
  else
  (gk (F_Co_within s1 v2 1) fun s3 a4 =>
  if a4 = 0 then
  (j_Co_page_17 s3)
  else
  (if v2 = 0 then
  (gi v1 32 <|
  some (s3, (s3 18 v1)))
  else
  (gi v1 32 <|
  if (s3 19 v1) = 0 then
  (j_Co_page_50 s3 0)
  else
  (j_Co_page_50 s3 1))))
set_option maxHeartbeats 4000000 in
theorem w_Co_page {X : gX} (C : gC gctC prog_1_method_12_code kR6 3 1 21 (some .int) X) (σ : gM) (v1 v2 : Int) : GG gctC X 0 [(0, .inr (.inr 0)), (1, .inl v1), (2, .inl v2)] [] σ (F_Co_page σ v1 v2) := by
  unfold F_Co_page
  refine g_iload_n C D_Co_page_0 rfl 1 rfl ?_
  refine g_bipush C D_Co_page_1 (by decide) ⟨by decide, by decide⟩ ?_
  refine g_callSi C [.inl v1, .inl 31] [] (Or.inr rfl) rfl (fun _ h1 h2 h3 => c_Co_within h1 h2 h3) wc_6_56 (by decide) (Nat.le_of_ble_eq_true rfl) D_Co_page_3 (fun s1 a2 => ?_)
  refine g_if_eq (tgt := 17) C D_Co_page_6 (by decide) ?_ ?_
  · refine g_sub [] rfl ?_
    exact wj_Co_page_17 C _
  · refine g_iload_n C D_Co_page_9 rfl 2 rfl ?_
    refine g_iconst C D_Co_page_10 ⟨by decide, by decide⟩ ?_
    refine g_callSi C [.inl v2, .inl 1] [] (Or.inr rfl) rfl (fun _ h1 h2 h3 => c_Co_within h1 h2 h3) wc_6_56 (by decide) (Nat.le_of_ble_eq_true rfl) D_Co_page_11 (fun s3 a4 => ?_)
    refine g_if_ne (tgt := 19) C D_Co_page_14 (by decide) ?_ ?_
    · refine g_iload_n C D_Co_page_19 rfl 2 rfl ?_
      refine g_if_ne (tgt := 33) C D_Co_page_20 (by decide) ?_ ?_
      · refine g_aload_n C D_Co_page_33 rfl 0 rfl ?_
        refine g_getr (ci := 6) C 4 rfl kI6 rfl (by decide) rfl rfl wf_6_43 D_Co_page_34 ?_
        refine g_getr (ci := 4) C 2 rfl kI4 rfl (by decide) rfl rfl wf_6_108 D_Co_page_37 ?_
        refine g_iload_n C D_Co_page_40 rfl 1 rfl ?_
        refine g_zald C rfl rfl rfl D_Co_page_41 ?_
        refine g_if_eq (tgt := 49) C D_Co_page_42 (by decide) ?_ ?_
        · refine g_iconst C D_Co_page_49 ⟨by decide, by decide⟩ ?_
          refine g_sub [] rfl ?_
          exact wj_Co_page_50 C _ _
        · refine g_iconst C D_Co_page_45 ⟨by decide, by decide⟩ ?_
          refine g_goto (tgt := 50) C D_Co_page_46 (by decide) ?_
          refine g_sub [] rfl ?_
          exact wj_Co_page_50 C _ _
      · refine g_aload_n C D_Co_page_23 rfl 0 rfl ?_
        refine g_getr (ci := 6) C 4 rfl kI6 rfl (by decide) rfl rfl wf_6_43 D_Co_page_24 ?_
        refine g_getr (ci := 4) C 1 rfl kI4 rfl (by decide) rfl rfl wf_6_105 D_Co_page_27 ?_
        refine g_iload_n C D_Co_page_30 rfl 1 rfl ?_
        refine g_iald C rfl rfl rfl D_Co_page_31 ?_
        exact g_iret C D_Co_page_32
    · refine g_sub [] rfl ?_
      exact wj_Co_page_17 C _
theorem c_Co_page {σ : gM} {v1 v2 : Int} {r : gR} (ho : F_Co_page σ v1 v2 = some r) (hok : gOk [.inr (.inr 0), .inl v1, .inl v2]) (hin : gIn gctC σ) : gCt gctC Y_Co_page prog_1_method_12_code 3 (some .int) 1 21 [.inr (.inr 0), .inl v1, .inl v2] σ r := g_entry (by decide) rfl (Nat.le_of_ble_eq_true rfl) ho hok hin (fun X C => w_Co_page C σ v1 v2)
theorem D_Co_loadTold_0 : decode prog_1_method_26_code 0 = .ok (.aload_n 0, 1) := by decide +kernel
theorem D_Co_loadTold_1 : decode prog_1_method_26_code 1 = .ok (.getfield 34, 3) := by decide +kernel
theorem D_Co_loadTold_4 : decode prog_1_method_26_code 4 = .ok (.iload_n 1, 1) := by decide +kernel
theorem D_Co_loadTold_5 : decode prog_1_method_26_code 5 = .ok (.aload_n 0, 1) := by decide +kernel
theorem D_Co_loadTold_6 : decode prog_1_method_26_code 6 = .ok (.getfield 43, 3) := by decide +kernel
theorem D_Co_loadTold_9 : decode prog_1_method_26_code 9 = .ok (.iload_n 2, 1) := by decide +kernel
theorem D_Co_loadTold_10 : decode prog_1_method_26_code 10 = .ok (.invokevirtual 119, 3) := by decide +kernel
theorem D_Co_loadTold_13 : decode prog_1_method_26_code 13 = .ok (.invokevirtual 188, 3) := by decide +kernel
theorem D_Co_loadTold_16 : decode prog_1_method_26_code 16 = .ok (.istore_n 3, 1) := by decide +kernel
theorem D_Co_loadTold_17 : decode prog_1_method_26_code 17 = .ok (.iload_n 3, 1) := by decide +kernel
theorem D_Co_loadTold_18 : decode prog_1_method_26_code 18 = .ok (.bipush (-5), 2) := by decide +kernel
theorem D_Co_loadTold_20 : decode prog_1_method_26_code 20 = .ok (.if_icmp .ne 13, 3) := by decide +kernel
theorem D_Co_loadTold_23 : decode prog_1_method_26_code 23 = .ok (.aload_n 0, 1) := by decide +kernel
theorem D_Co_loadTold_24 : decode prog_1_method_26_code 24 = .ok (.getfield 16, 3) := by decide +kernel
theorem D_Co_loadTold_27 : decode prog_1_method_26_code 27 = .ok (.bipush 9, 2) := by decide +kernel
theorem D_Co_loadTold_29 : decode prog_1_method_26_code 29 = .ok (.iconst 1, 1) := by decide +kernel
theorem D_Co_loadTold_30 : decode prog_1_method_26_code 30 = .ok (.invokevirtual 191, 3) := by decide +kernel
theorem D_Co_loadTold_33 : decode prog_1_method_26_code 33 = .ok (.iload_n 3, 1) := by decide +kernel
theorem D_Co_loadTold_34 : decode prog_1_method_26_code 34 = .ok (.ireturn, 1) := by decide +kernel
def j_Co_loadTold_33 (σ : gM) (v3 : Int) : gO :=
  some (σ, v3)
set_option maxHeartbeats 4000000 in
theorem wj_Co_loadTold_33 {X : gX} (C : gC gctC prog_1_method_26_code kR6 4 5 123 (some .int) X) (σ : gM) (v3 : Int) : GG gctC X 33 [(3, .inl v3)] [] σ (j_Co_loadTold_33 σ v3) := by
  unfold j_Co_loadTold_33
  refine g_iload_n C D_Co_loadTold_33 rfl 0 rfl ?_
  exact g_iret C D_Co_loadTold_34
def F_Co_loadTold (σ : gM) (v1 v2 : Int) : gO :=
  gk (F_Me_touch σ v2) fun s1 a2 =>
  gk (F_Ca_ask s1 v1 a2) fun s3 a4 =>
  if a4 = (-5) then
  (gk (F_Le_add s3 9 1) fun s5 _ =>
  j_Co_loadTold_33 s5 a4)
  else
  (j_Co_loadTold_33 s3 a4)
set_option maxHeartbeats 4000000 in
theorem w_Co_loadTold {X : gX} (C : gC gctC prog_1_method_26_code kR6 4 5 123 (some .int) X) (σ : gM) (v1 v2 : Int) : GG gctC X 0 [(0, .inr (.inr 0)), (1, .inl v1), (2, .inl v2)] [] σ (F_Co_loadTold σ v1 v2) := by
  unfold F_Co_loadTold
  refine g_aload_n C D_Co_loadTold_0 rfl 0 rfl ?_
  refine g_getr (ci := 6) C 3 rfl kI6 rfl (by decide) rfl rfl wf_6_34 D_Co_loadTold_1 ?_
  refine g_iload_n C D_Co_loadTold_4 rfl 1 rfl ?_
  refine g_aload_n C D_Co_loadTold_5 rfl 0 rfl ?_
  refine g_getr (ci := 6) C 4 rfl kI6 rfl (by decide) rfl rfl wf_6_43 D_Co_loadTold_6 ?_
  refine g_iload_n C D_Co_loadTold_9 rfl 2 rfl ?_
  refine g_callVi (ci := 4) C [.inl v2] [.inl v1, .inr (.inr 9)] (Or.inl rfl) rfl (fun _ h1 h2 h3 => c_Me_touch h1 h2 h3) rfl rfl wc_6_119 (by decide) (Nat.le_of_ble_eq_true rfl) D_Co_loadTold_10 (fun s1 a2 => ?_)
  refine g_callVi (ci := 0) C [.inl v1, .inl a2] [] (Or.inl rfl) rfl (fun _ h1 h2 h3 => c_Ca_ask h1 h2 h3) rfl rfl wc_6_188 (by decide) (Nat.le_of_ble_eq_true rfl) D_Co_loadTold_13 (fun s3 a4 => ?_)
  refine g_istore_n (L' := [(3, .inl a4), (0, .inr (.inr 0)), (1, .inl v1), (2, .inl v2)]) C D_Co_loadTold_16 rfl (by decide) rfl ?_
  refine g_iload_n C D_Co_loadTold_17 rfl 0 rfl ?_
  refine g_bipush C D_Co_loadTold_18 (by decide) ⟨by decide, by decide⟩ ?_
  refine g_icmp_ne (tgt := 33) C D_Co_loadTold_20 (by decide) ?_ ?_
  · refine g_sub [0] rfl ?_
    exact wj_Co_loadTold_33 C _ _
  · refine g_aload_n C D_Co_loadTold_23 rfl 1 rfl ?_
    refine g_getr (ci := 6) C 1 rfl kI6 rfl (by decide) rfl rfl wf_6_16 D_Co_loadTold_24 ?_
    refine g_bipush C D_Co_loadTold_27 (by decide) ⟨by decide, by decide⟩ ?_
    refine g_iconst C D_Co_loadTold_29 ⟨by decide, by decide⟩ ?_
    refine g_callVv (ci := 3) C [.inl 9, .inl 1] [] rfl rfl (fun _ h1 h2 h3 => c_Le_add h1 h2 h3) rfl rfl wc_6_191 (by decide) (Nat.le_of_ble_eq_true rfl) D_Co_loadTold_30 (fun s5 _ => ?_)
    refine g_sub [0] rfl ?_
    exact wj_Co_loadTold_33 C _ _
theorem c_Co_loadTold {σ : gM} {v1 v2 : Int} {r : gR} (ho : F_Co_loadTold σ v1 v2 = some r) (hok : gOk [.inr (.inr 0), .inl v1, .inl v2]) (hin : gIn gctC σ) : gCt gctC Y_Co_loadTold prog_1_method_26_code 4 (some .int) 5 123 [.inr (.inr 0), .inl v1, .inl v2] σ r := g_entry (by decide) rfl (Nat.le_of_ble_eq_true rfl) ho hok hin (fun X C => w_Co_loadTold C σ v1 v2)
theorem D_Co_load_0 : decode prog_1_method_13_code 0 = .ok (.iload_n 1, 1) := by decide +kernel
theorem D_Co_load_1 : decode prog_1_method_13_code 1 = .ok (.iconst 1, 1) := by decide +kernel
theorem D_Co_load_2 : decode prog_1_method_13_code 2 = .ok (.invokestatic 56, 3) := by decide +kernel
theorem D_Co_load_5 : decode prog_1_method_13_code 5 = .ok (.ifCond .eq 13, 3) := by decide +kernel
theorem D_Co_load_8 : decode prog_1_method_13_code 8 = .ok (.iload_n 2, 1) := by decide +kernel
theorem D_Co_load_9 : decode prog_1_method_13_code 9 = .ok (.sipush 1023, 3) := by decide +kernel
theorem D_Co_load_12 : decode prog_1_method_13_code 12 = .ok (.invokestatic 56, 3) := by decide +kernel
theorem D_Co_load_15 : decode prog_1_method_13_code 15 = .ok (.ifCond .ne 5, 3) := by decide +kernel
theorem D_Co_load_18 : decode prog_1_method_13_code 18 = .ok (.iconst (-1), 1) := by decide +kernel
theorem D_Co_load_19 : decode prog_1_method_13_code 19 = .ok (.ireturn, 1) := by decide +kernel
theorem D_Co_load_20 : decode prog_1_method_13_code 20 = .ok (.aload_n 0, 1) := by decide +kernel
theorem D_Co_load_21 : decode prog_1_method_13_code 21 = .ok (.iload_n 1, 1) := by decide +kernel
theorem D_Co_load_22 : decode prog_1_method_13_code 22 = .ok (.iload_n 2, 1) := by decide +kernel
theorem D_Co_load_23 : decode prog_1_method_13_code 23 = .ok (.invokevirtual 112, 3) := by decide +kernel
theorem D_Co_load_26 : decode prog_1_method_13_code 26 = .ok (.ireturn, 1) := by decide +kernel
def j_Co_load_18 (σ : gM) : gO :=
  some (σ, (-1))
set_option maxHeartbeats 4000000 in
theorem wj_Co_load_18 {X : gX} (C : gC gctC prog_1_method_13_code kR6 3 6 146 (some .int) X) (σ : gM) : GG gctC X 18 [] [] σ (j_Co_load_18 σ) := by
  unfold j_Co_load_18
  refine g_iconst C D_Co_load_18 ⟨by decide, by decide⟩ ?_
  exact g_iret C D_Co_load_19
def F_Co_load (σ : gM) (v1 v2 : Int) : gO :=
  gk (F_Co_within σ v1 1) fun s1 a2 =>
  if a2 = 0 then
  (j_Co_load_18 s1)
  else
  (gk (F_Co_within s1 v2 1023) fun s3 a4 =>
  if a4 = 0 then
  (j_Co_load_18 s3)
  else
  (gk (F_Co_loadTold s3 v1 v2) fun s5 a6 =>
  some (s5, a6)))
set_option maxHeartbeats 4000000 in
theorem w_Co_load {X : gX} (C : gC gctC prog_1_method_13_code kR6 3 6 146 (some .int) X) (σ : gM) (v1 v2 : Int) : GG gctC X 0 [(0, .inr (.inr 0)), (1, .inl v1), (2, .inl v2)] [] σ (F_Co_load σ v1 v2) := by
  unfold F_Co_load
  refine g_iload_n C D_Co_load_0 rfl 1 rfl ?_
  refine g_iconst C D_Co_load_1 ⟨by decide, by decide⟩ ?_
  refine g_callSi C [.inl v1, .inl 1] [] (Or.inr rfl) rfl (fun _ h1 h2 h3 => c_Co_within h1 h2 h3) wc_6_56 (by decide) (Nat.le_of_ble_eq_true rfl) D_Co_load_2 (fun s1 a2 => ?_)
  refine g_if_eq (tgt := 18) C D_Co_load_5 (by decide) ?_ ?_
  · refine g_sub [] rfl ?_
    exact wj_Co_load_18 C _
  · refine g_iload_n C D_Co_load_8 rfl 2 rfl ?_
    refine g_sipush C D_Co_load_9 (by decide) ⟨by decide, by decide⟩ ?_
    refine g_callSi C [.inl v2, .inl 1023] [] (Or.inr rfl) rfl (fun _ h1 h2 h3 => c_Co_within h1 h2 h3) wc_6_56 (by decide) (Nat.le_of_ble_eq_true rfl) D_Co_load_12 (fun s3 a4 => ?_)
    refine g_if_ne (tgt := 20) C D_Co_load_15 (by decide) ?_ ?_
    · refine g_aload_n C D_Co_load_20 rfl 0 rfl ?_
      refine g_iload_n C D_Co_load_21 rfl 1 rfl ?_
      refine g_iload_n C D_Co_load_22 rfl 2 rfl ?_
      refine g_callVi (ci := 6) C [.inl v1, .inl v2] [] (Or.inl rfl) rfl (fun _ h1 h2 h3 => c_Co_loadTold h1 h2 h3) rfl rfl wc_6_112 (by decide) (Nat.le_of_ble_eq_true rfl) D_Co_load_23 (fun s5 a6 => ?_)
      exact g_iret C D_Co_load_26
    · refine g_sub [] rfl ?_
      exact wj_Co_load_18 C _
theorem c_Co_load {σ : gM} {v1 v2 : Int} {r : gR} (ho : F_Co_load σ v1 v2 = some r) (hok : gOk [.inr (.inr 0), .inl v1, .inl v2]) (hin : gIn gctC σ) : gCt gctC Y_Co_load prog_1_method_13_code 3 (some .int) 6 146 [.inr (.inr 0), .inl v1, .inl v2] σ r := g_entry (by decide) rfl (Nat.le_of_ble_eq_true rfl) ho hok hin (fun X C => w_Co_load C σ v1 v2)
theorem D_Co_save_0 : decode prog_1_method_14_code 0 = .ok (.iload_n 1, 1) := by decide +kernel
theorem D_Co_save_1 : decode prog_1_method_14_code 1 = .ok (.iconst 1, 1) := by decide +kernel
theorem D_Co_save_2 : decode prog_1_method_14_code 2 = .ok (.invokestatic 56, 3) := by decide +kernel
theorem D_Co_save_5 : decode prog_1_method_14_code 5 = .ok (.ifCond .eq 23, 3) := by decide +kernel
theorem D_Co_save_8 : decode prog_1_method_14_code 8 = .ok (.iload_n 2, 1) := by decide +kernel
theorem D_Co_save_9 : decode prog_1_method_14_code 9 = .ok (.sipush 1023, 3) := by decide +kernel
theorem D_Co_save_12 : decode prog_1_method_14_code 12 = .ok (.invokestatic 56, 3) := by decide +kernel
theorem D_Co_save_15 : decode prog_1_method_14_code 15 = .ok (.ifCond .eq 13, 3) := by decide +kernel
theorem D_Co_save_18 : decode prog_1_method_14_code 18 = .ok (.iload_n 3, 1) := by decide +kernel
theorem D_Co_save_19 : decode prog_1_method_14_code 19 = .ok (.sipush 255, 3) := by decide +kernel
theorem D_Co_save_22 : decode prog_1_method_14_code 22 = .ok (.invokestatic 56, 3) := by decide +kernel
theorem D_Co_save_25 : decode prog_1_method_14_code 25 = .ok (.ifCond .ne 5, 3) := by decide +kernel
theorem D_Co_save_28 : decode prog_1_method_14_code 28 = .ok (.iconst (-1), 1) := by decide +kernel
theorem D_Co_save_29 : decode prog_1_method_14_code 29 = .ok (.ireturn, 1) := by decide +kernel
theorem D_Co_save_30 : decode prog_1_method_14_code 30 = .ok (.aload_n 0, 1) := by decide +kernel
theorem D_Co_save_31 : decode prog_1_method_14_code 31 = .ok (.getfield 16, 3) := by decide +kernel
theorem D_Co_save_34 : decode prog_1_method_14_code 34 = .ok (.getfield 116, 3) := by decide +kernel
theorem D_Co_save_37 : decode prog_1_method_14_code 37 = .ok (.bipush 14, 2) := by decide +kernel
theorem D_Co_save_39 : decode prog_1_method_14_code 39 = .ok (.iaload, 1) := by decide +kernel
theorem D_Co_save_40 : decode prog_1_method_14_code 40 = .ok (.istore 4, 2) := by decide +kernel
theorem D_Co_save_42 : decode prog_1_method_14_code 42 = .ok (.aload_n 0, 1) := by decide +kernel
theorem D_Co_save_43 : decode prog_1_method_14_code 43 = .ok (.getfield 34, 3) := by decide +kernel
theorem D_Co_save_46 : decode prog_1_method_14_code 46 = .ok (.iload_n 1, 1) := by decide +kernel
theorem D_Co_save_47 : decode prog_1_method_14_code 47 = .ok (.aload_n 0, 1) := by decide +kernel
theorem D_Co_save_48 : decode prog_1_method_14_code 48 = .ok (.getfield 43, 3) := by decide +kernel
theorem D_Co_save_51 : decode prog_1_method_14_code 51 = .ok (.iload_n 2, 1) := by decide +kernel
theorem D_Co_save_52 : decode prog_1_method_14_code 52 = .ok (.invokevirtual 119, 3) := by decide +kernel
theorem D_Co_save_55 : decode prog_1_method_14_code 55 = .ok (.iload_n 3, 1) := by decide +kernel
theorem D_Co_save_56 : decode prog_1_method_14_code 56 = .ok (.invokevirtual 122, 3) := by decide +kernel
theorem D_Co_save_59 : decode prog_1_method_14_code 59 = .ok (.aload_n 0, 1) := by decide +kernel
theorem D_Co_save_60 : decode prog_1_method_14_code 60 = .ok (.getfield 16, 3) := by decide +kernel
theorem D_Co_save_63 : decode prog_1_method_14_code 63 = .ok (.getfield 116, 3) := by decide +kernel
theorem D_Co_save_66 : decode prog_1_method_14_code 66 = .ok (.bipush 14, 2) := by decide +kernel
theorem D_Co_save_68 : decode prog_1_method_14_code 68 = .ok (.iaload, 1) := by decide +kernel
theorem D_Co_save_69 : decode prog_1_method_14_code 69 = .ok (.iload 4, 2) := by decide +kernel
theorem D_Co_save_71 : decode prog_1_method_14_code 71 = .ok (.isub, 1) := by decide +kernel
theorem D_Co_save_72 : decode prog_1_method_14_code 72 = .ok (.ireturn, 1) := by decide +kernel
def j_Co_save_28 (σ : gM) : gO :=
  some (σ, (-1))
set_option maxHeartbeats 4000000 in
theorem wj_Co_save_28 {X : gX} (C : gC gctC prog_1_method_14_code kR6 5 5 125 (some .int) X) (σ : gM) : GG gctC X 28 [] [] σ (j_Co_save_28 σ) := by
  unfold j_Co_save_28
  refine g_iconst C D_Co_save_28 ⟨by decide, by decide⟩ ?_
  exact g_iret C D_Co_save_29
def F_Co_save (σ : gM) (v1 v2 v3 : Int) : gO :=
  gk (F_Co_within σ v1 1) fun s1 a2 =>
  if a2 = 0 then
  (j_Co_save_28 s1)
  else
  (gk (F_Co_within s1 v2 1023) fun s3 a4 =>
  if a4 = 0 then
  (j_Co_save_28 s3)
  else
  (gk (F_Co_within s3 v3 255) fun s5 a6 =>
  if a6 = 0 then
  (j_Co_save_28 s5)
  else
  (gi 14 16 <|
  gv (s5 4 14) fun a7 =>
  gk (F_Me_touch s5 v2) fun s8 a9 =>
  gk (F_Ca_change s8 v1 a9 v3) fun s10 _ =>
  gi 14 16 <|
  ga ((s10 4 14) - a7) fun a11 =>
  some (s10, a11))))
set_option maxHeartbeats 4000000 in
theorem w_Co_save {X : gX} (C : gC gctC prog_1_method_14_code kR6 5 5 125 (some .int) X) (σ : gM) (v1 v2 v3 : Int) : GG gctC X 0 [(0, .inr (.inr 0)), (1, .inl v1), (2, .inl v2), (3, .inl v3)] [] σ (F_Co_save σ v1 v2 v3) := by
  unfold F_Co_save
  refine g_iload_n C D_Co_save_0 rfl 1 rfl ?_
  refine g_iconst C D_Co_save_1 ⟨by decide, by decide⟩ ?_
  refine g_callSi C [.inl v1, .inl 1] [] (Or.inr rfl) rfl (fun _ h1 h2 h3 => c_Co_within h1 h2 h3) wc_6_56 (by decide) (Nat.le_of_ble_eq_true rfl) D_Co_save_2 (fun s1 a2 => ?_)
  refine g_if_eq (tgt := 28) C D_Co_save_5 (by decide) ?_ ?_
  · refine g_sub [] rfl ?_
    exact wj_Co_save_28 C _
  · refine g_iload_n C D_Co_save_8 rfl 2 rfl ?_
    refine g_sipush C D_Co_save_9 (by decide) ⟨by decide, by decide⟩ ?_
    refine g_callSi C [.inl v2, .inl 1023] [] (Or.inr rfl) rfl (fun _ h1 h2 h3 => c_Co_within h1 h2 h3) wc_6_56 (by decide) (Nat.le_of_ble_eq_true rfl) D_Co_save_12 (fun s3 a4 => ?_)
    refine g_if_eq (tgt := 28) C D_Co_save_15 (by decide) ?_ ?_
    · refine g_sub [] rfl ?_
      exact wj_Co_save_28 C _
    · refine g_iload_n C D_Co_save_18 rfl 3 rfl ?_
      refine g_sipush C D_Co_save_19 (by decide) ⟨by decide, by decide⟩ ?_
      refine g_callSi C [.inl v3, .inl 255] [] (Or.inr rfl) rfl (fun _ h1 h2 h3 => c_Co_within h1 h2 h3) wc_6_56 (by decide) (Nat.le_of_ble_eq_true rfl) D_Co_save_22 (fun s5 a6 => ?_)
      refine g_if_ne (tgt := 30) C D_Co_save_25 (by decide) ?_ ?_
      · refine g_aload_n C D_Co_save_30 rfl 0 rfl ?_
        refine g_getr (ci := 6) C 1 rfl kI6 rfl (by decide) rfl rfl wf_6_16 D_Co_save_31 ?_
        refine g_getr (ci := 3) C 1 rfl kI3 rfl (by decide) rfl rfl wf_6_116 D_Co_save_34 ?_
        refine g_bipush C D_Co_save_37 (by decide) ⟨by decide, by decide⟩ ?_
        refine g_iald C rfl rfl rfl D_Co_save_39 ?_
        refine g_let C (fun a7 => ?_)
        refine g_istore (L' := [(4, .inl a7), (0, .inr (.inr 0)), (1, .inl v1), (2, .inl v2), (3, .inl v3)]) C D_Co_save_40 (by decide) rfl ?_
        refine g_aload_n C D_Co_save_42 rfl 1 rfl ?_
        refine g_getr (ci := 6) C 3 rfl kI6 rfl (by decide) rfl rfl wf_6_34 D_Co_save_43 ?_
        refine g_iload_n C D_Co_save_46 rfl 2 rfl ?_
        refine g_aload_n C D_Co_save_47 rfl 1 rfl ?_
        refine g_getr (ci := 6) C 4 rfl kI6 rfl (by decide) rfl rfl wf_6_43 D_Co_save_48 ?_
        refine g_iload_n C D_Co_save_51 rfl 3 rfl ?_
        refine g_callVi (ci := 4) C [.inl v2] [.inl v1, .inr (.inr 9)] (Or.inl rfl) rfl (fun _ h1 h2 h3 => c_Me_touch h1 h2 h3) rfl rfl wc_6_119 (by decide) (Nat.le_of_ble_eq_true rfl) D_Co_save_52 (fun s8 a9 => ?_)
        refine g_iload_n C D_Co_save_55 rfl 4 rfl ?_
        refine g_callVv (ci := 0) C [.inl v1, .inl a9, .inl v3] [] rfl rfl (fun _ h1 h2 h3 => c_Ca_change h1 h2 h3) rfl rfl wc_6_122 (by decide) (Nat.le_of_ble_eq_true rfl) D_Co_save_56 (fun s10 _ => ?_)
        refine g_aload_n C D_Co_save_59 rfl 1 rfl ?_
        refine g_getr (ci := 6) C 1 rfl kI6 rfl (by decide) rfl rfl wf_6_16 D_Co_save_60 ?_
        refine g_getr (ci := 3) C 1 rfl kI3 rfl (by decide) rfl rfl wf_6_116 D_Co_save_63 ?_
        refine g_bipush C D_Co_save_66 (by decide) ⟨by decide, by decide⟩ ?_
        refine g_iald C rfl rfl rfl D_Co_save_68 ?_
        refine g_iload C D_Co_save_69 0 rfl ?_
        refine g_isub C D_Co_save_71 (fun a11 => ?_)
        exact g_iret C D_Co_save_72
      · refine g_sub [] rfl ?_
        exact wj_Co_save_28 C _
theorem c_Co_save {σ : gM} {v1 v2 v3 : Int} {r : gR} (ho : F_Co_save σ v1 v2 v3 = some r) (hok : gOk [.inr (.inr 0), .inl v1, .inl v2, .inl v3]) (hin : gIn gctC σ) : gCt gctC Y_Co_save prog_1_method_14_code 5 (some .int) 5 125 [.inr (.inr 0), .inl v1, .inl v2, .inl v3] σ r := g_entry (by decide) rfl (Nat.le_of_ble_eq_true rfl) ho hok hin (fun X C => w_Co_save C σ v1 v2 v3)
theorem D_Co_fewest_0 : decode prog_1_method_15_code 0 = .ok (.iload_n 1, 1) := by decide +kernel
theorem D_Co_fewest_1 : decode prog_1_method_15_code 1 = .ok (.iconst 1, 1) := by decide +kernel
theorem D_Co_fewest_2 : decode prog_1_method_15_code 2 = .ok (.if_icmp .lt 9, 3) := by decide +kernel
theorem D_Co_fewest_5 : decode prog_1_method_15_code 5 = .ok (.iload_n 1, 1) := by decide +kernel
theorem D_Co_fewest_6 : decode prog_1_method_15_code 6 = .ok (.bipush 16, 2) := by decide +kernel
theorem D_Co_fewest_8 : decode prog_1_method_15_code 8 = .ok (.if_icmp .le 5, 3) := by decide +kernel
theorem D_Co_fewest_11 : decode prog_1_method_15_code 11 = .ok (.iconst (-1), 1) := by decide +kernel
theorem D_Co_fewest_12 : decode prog_1_method_15_code 12 = .ok (.ireturn, 1) := by decide +kernel
theorem D_Co_fewest_13 : decode prog_1_method_15_code 13 = .ok (.aload_n 0, 1) := by decide +kernel
theorem D_Co_fewest_14 : decode prog_1_method_15_code 14 = .ok (.getfield 43, 3) := by decide +kernel
theorem D_Co_fewest_17 : decode prog_1_method_15_code 17 = .ok (.getfield 126, 3) := by decide +kernel
theorem D_Co_fewest_20 : decode prog_1_method_15_code 20 = .ok (.iload_n 1, 1) := by decide +kernel
theorem D_Co_fewest_21 : decode prog_1_method_15_code 21 = .ok (.invokevirtual 130, 3) := by decide +kernel
theorem D_Co_fewest_24 : decode prog_1_method_15_code 24 = .ok (.ireturn, 1) := by decide +kernel
def j_Co_fewest_11 (σ : gM) : gO :=
  some (σ, (-1))
set_option maxHeartbeats 4000000 in
theorem wj_Co_fewest_11 {X : gX} (C : gC gctC prog_1_method_15_code kR6 2 3 69 (some .int) X) (σ : gM) : GG gctC X 11 [] [] σ (j_Co_fewest_11 σ) := by
  unfold j_Co_fewest_11
  refine g_iconst C D_Co_fewest_11 ⟨by decide, by decide⟩ ?_
  exact g_iret C D_Co_fewest_12
def F_Co_fewest (σ : gM) (v1 : Int) : gO :=
  if v1 < 1 then
  (j_Co_fewest_11 σ)
  else
  (if 16 < v1 then
  (j_Co_fewest_11 σ)
  else
  (gk (F_Ru_fewestFaults σ v1) fun s1 a2 =>
  some (s1, a2)))
set_option maxHeartbeats 4000000 in
theorem w_Co_fewest {X : gX} (C : gC gctC prog_1_method_15_code kR6 2 3 69 (some .int) X) (σ : gM) (v1 : Int) : GG gctC X 0 [(0, .inr (.inr 0)), (1, .inl v1)] [] σ (F_Co_fewest σ v1) := by
  unfold F_Co_fewest
  refine g_iload_n C D_Co_fewest_0 rfl 1 rfl ?_
  refine g_iconst C D_Co_fewest_1 ⟨by decide, by decide⟩ ?_
  refine g_icmp_lt (tgt := 11) C D_Co_fewest_2 (by decide) ?_ ?_
  · refine g_sub [] rfl ?_
    exact wj_Co_fewest_11 C _
  · refine g_iload_n C D_Co_fewest_5 rfl 1 rfl ?_
    refine g_bipush C D_Co_fewest_6 (by decide) ⟨by decide, by decide⟩ ?_
    refine g_icmp_le (tgt := 13) C D_Co_fewest_8 (by decide) ?_ ?_
    · refine g_aload_n C D_Co_fewest_13 rfl 0 rfl ?_
      refine g_getr (ci := 6) C 4 rfl kI6 rfl (by decide) rfl rfl wf_6_43 D_Co_fewest_14 ?_
      refine g_getr (ci := 4) C 3 rfl kI4 rfl (by decide) rfl rfl wf_6_126 D_Co_fewest_17 ?_
      refine g_iload_n C D_Co_fewest_20 rfl 1 rfl ?_
      refine g_callVi (ci := 5) C [.inl v1] [] (Or.inl rfl) rfl (fun _ h1 h2 h3 => c_Ru_fewestFaults h1 h2 h3) rfl rfl wc_6_130 (by decide) (Nat.le_of_ble_eq_true rfl) D_Co_fewest_21 (fun s1 a2 => ?_)
      exact g_iret C D_Co_fewest_24
    · refine g_sub [] rfl ?_
      exact wj_Co_fewest_11 C _
theorem c_Co_fewest {σ : gM} {v1 : Int} {r : gR} (ho : F_Co_fewest σ v1 = some r) (hok : gOk [.inr (.inr 0), .inl v1]) (hin : gIn gctC σ) : gCt gctC Y_Co_fewest prog_1_method_15_code 2 (some .int) 3 69 [.inr (.inr 0), .inl v1] σ r := g_entry (by decide) rfl (Nat.le_of_ble_eq_true rfl) ho hok hin (fun X C => w_Co_fewest C σ v1)
theorem D_Co_make_0 : decode prog_1_method_16_code 0 = .ok (.iload_n 1, 1) := by decide +kernel
theorem D_Co_make_1 : decode prog_1_method_16_code 1 = .ok (.iconst 1, 1) := by decide +kernel
theorem D_Co_make_2 : decode prog_1_method_16_code 2 = .ok (.invokestatic 56, 3) := by decide +kernel
theorem D_Co_make_5 : decode prog_1_method_16_code 5 = .ok (.ifCond .eq 14, 3) := by decide +kernel
theorem D_Co_make_8 : decode prog_1_method_16_code 8 = .ok (.iload_n 2, 1) := by decide +kernel
theorem D_Co_make_9 : decode prog_1_method_16_code 9 = .ok (.iconst 1, 1) := by decide +kernel
theorem D_Co_make_10 : decode prog_1_method_16_code 10 = .ok (.if_icmp .lt 9, 3) := by decide +kernel
theorem D_Co_make_13 : decode prog_1_method_16_code 13 = .ok (.iload_n 2, 1) := by decide +kernel
theorem D_Co_make_14 : decode prog_1_method_16_code 14 = .ok (.bipush 24, 2) := by decide +kernel
theorem D_Co_make_16 : decode prog_1_method_16_code 16 = .ok (.if_icmp .le 5, 3) := by decide +kernel
theorem D_Co_make_19 : decode prog_1_method_16_code 19 = .ok (.iconst (-1), 1) := by decide +kernel
theorem D_Co_make_20 : decode prog_1_method_16_code 20 = .ok (.ireturn, 1) := by decide +kernel
theorem D_Co_make_21 : decode prog_1_method_16_code 21 = .ok (.aload_n 0, 1) := by decide +kernel
theorem D_Co_make_22 : decode prog_1_method_16_code 22 = .ok (.getfield 52, 3) := by decide +kernel
theorem D_Co_make_25 : decode prog_1_method_16_code 25 = .ok (.iload_n 2, 1) := by decide +kernel
theorem D_Co_make_26 : decode prog_1_method_16_code 26 = .ok (.invokevirtual 135, 3) := by decide +kernel
theorem D_Co_make_29 : decode prog_1_method_16_code 29 = .ok (.bipush (-4), 2) := by decide +kernel
theorem D_Co_make_31 : decode prog_1_method_16_code 31 = .ok (.if_icmp .eq 15, 3) := by decide +kernel
theorem D_Co_make_34 : decode prog_1_method_16_code 34 = .ok (.aload_n 0, 1) := by decide +kernel
theorem D_Co_make_35 : decode prog_1_method_16_code 35 = .ok (.getfield 52, 3) := by decide +kernel
theorem D_Co_make_38 : decode prog_1_method_16_code 38 = .ok (.invokevirtual 138, 3) := by decide +kernel
theorem D_Co_make_41 : decode prog_1_method_16_code 41 = .ok (.bipush (-4), 2) := by decide +kernel
theorem D_Co_make_43 : decode prog_1_method_16_code 43 = .ok (.if_icmp .ne 12, 3) := by decide +kernel
theorem D_Co_make_46 : decode prog_1_method_16_code 46 = .ok (.aload_n 0, 1) := by decide +kernel
theorem D_Co_make_47 : decode prog_1_method_16_code 47 = .ok (.getfield 52, 3) := by decide +kernel
theorem D_Co_make_50 : decode prog_1_method_16_code 50 = .ok (.iconst 0, 1) := by decide +kernel
theorem D_Co_make_51 : decode prog_1_method_16_code 51 = .ok (.invokevirtual 142, 3) := by decide +kernel
theorem D_Co_make_54 : decode prog_1_method_16_code 54 = .ok (.pop, 1) := by decide +kernel
theorem D_Co_make_55 : decode prog_1_method_16_code 55 = .ok (.aload_n 0, 1) := by decide +kernel
theorem D_Co_make_56 : decode prog_1_method_16_code 56 = .ok (.getfield 52, 3) := by decide +kernel
theorem D_Co_make_59 : decode prog_1_method_16_code 59 = .ok (.iload_n 2, 1) := by decide +kernel
theorem D_Co_make_60 : decode prog_1_method_16_code 60 = .ok (.invokevirtual 135, 3) := by decide +kernel
theorem D_Co_make_63 : decode prog_1_method_16_code 63 = .ok (.istore 4, 2) := by decide +kernel
theorem D_Co_make_65 : decode prog_1_method_16_code 65 = .ok (.aload_n 0, 1) := by decide +kernel
theorem D_Co_make_66 : decode prog_1_method_16_code 66 = .ok (.getfield 52, 3) := by decide +kernel
theorem D_Co_make_69 : decode prog_1_method_16_code 69 = .ok (.invokevirtual 138, 3) := by decide +kernel
theorem D_Co_make_72 : decode prog_1_method_16_code 72 = .ok (.istore 5, 2) := by decide +kernel
theorem D_Co_make_74 : decode prog_1_method_16_code 74 = .ok (.iload 4, 2) := by decide +kernel
theorem D_Co_make_76 : decode prog_1_method_16_code 76 = .ok (.bipush (-4), 2) := by decide +kernel
theorem D_Co_make_78 : decode prog_1_method_16_code 78 = .ok (.if_icmp .eq 10, 3) := by decide +kernel
theorem D_Co_make_81 : decode prog_1_method_16_code 81 = .ok (.iload 5, 2) := by decide +kernel
theorem D_Co_make_83 : decode prog_1_method_16_code 83 = .ok (.bipush (-4), 2) := by decide +kernel
theorem D_Co_make_85 : decode prog_1_method_16_code 85 = .ok (.if_icmp .ne 6, 3) := by decide +kernel
theorem D_Co_make_88 : decode prog_1_method_16_code 88 = .ok (.bipush (-3), 2) := by decide +kernel
theorem D_Co_make_90 : decode prog_1_method_16_code 90 = .ok (.ireturn, 1) := by decide +kernel
theorem D_Co_make_91 : decode prog_1_method_16_code 91 = .ok (.aload_n 0, 1) := by decide +kernel
theorem D_Co_make_92 : decode prog_1_method_16_code 92 = .ok (.getfield 52, 3) := by decide +kernel
theorem D_Co_make_95 : decode prog_1_method_16_code 95 = .ok (.iload 5, 2) := by decide +kernel
theorem D_Co_make_97 : decode prog_1_method_16_code 97 = .ok (.iload 4, 2) := by decide +kernel
theorem D_Co_make_99 : decode prog_1_method_16_code 99 = .ok (.iload_n 2, 1) := by decide +kernel
theorem D_Co_make_100 : decode prog_1_method_16_code 100 = .ok (.iload_n 3, 1) := by decide +kernel
theorem D_Co_make_101 : decode prog_1_method_16_code 101 = .ok (.invokevirtual 145, 3) := by decide +kernel
theorem D_Co_make_104 : decode prog_1_method_16_code 104 = .ok (.iconst 0, 1) := by decide +kernel
theorem D_Co_make_105 : decode prog_1_method_16_code 105 = .ok (.istore 6, 2) := by decide +kernel
theorem D_Co_make_107 : decode prog_1_method_16_code 107 = .ok (.iload 6, 2) := by decide +kernel
theorem D_Co_make_109 : decode prog_1_method_16_code 109 = .ok (.iload_n 2, 1) := by decide +kernel
theorem D_Co_make_110 : decode prog_1_method_16_code 110 = .ok (.if_icmp .ge 30, 3) := by decide +kernel
theorem D_Co_make_113 : decode prog_1_method_16_code 113 = .ok (.aload_n 0, 1) := by decide +kernel
theorem D_Co_make_114 : decode prog_1_method_16_code 114 = .ok (.getfield 34, 3) := by decide +kernel
theorem D_Co_make_117 : decode prog_1_method_16_code 117 = .ok (.iload_n 1, 1) := by decide +kernel
theorem D_Co_make_118 : decode prog_1_method_16_code 118 = .ok (.aload_n 0, 1) := by decide +kernel
theorem D_Co_make_119 : decode prog_1_method_16_code 119 = .ok (.getfield 43, 3) := by decide +kernel
theorem D_Co_make_122 : decode prog_1_method_16_code 122 = .ok (.iload 4, 2) := by decide +kernel
theorem D_Co_make_124 : decode prog_1_method_16_code 124 = .ok (.iload 6, 2) := by decide +kernel
theorem D_Co_make_126 : decode prog_1_method_16_code 126 = .ok (.iadd, 1) := by decide +kernel
theorem D_Co_make_127 : decode prog_1_method_16_code 127 = .ok (.invokevirtual 119, 3) := by decide +kernel
theorem D_Co_make_130 : decode prog_1_method_16_code 130 = .ok (.iconst 0, 1) := by decide +kernel
theorem D_Co_make_131 : decode prog_1_method_16_code 131 = .ok (.invokevirtual 122, 3) := by decide +kernel
theorem D_Co_make_134 : decode prog_1_method_16_code 134 = .ok (.iinc 6 1, 3) := by decide +kernel
theorem D_Co_make_137 : decode prog_1_method_16_code 137 = .ok (.goto (-30), 3) := by decide +kernel
theorem D_Co_make_140 : decode prog_1_method_16_code 140 = .ok (.iload 5, 2) := by decide +kernel
theorem D_Co_make_142 : decode prog_1_method_16_code 142 = .ok (.ireturn, 1) := by decide +kernel
def j_Co_make_19 (σ : gM) : gO :=
  some (σ, (-1))
set_option maxHeartbeats 4000000 in
theorem wj_Co_make_19 {X : gX} (C : gC gctC prog_1_method_16_code kR6 7 7 175 (some .int) X) (σ : gM) : GG gctC X 19 [] [] σ (j_Co_make_19 σ) := by
  unfold j_Co_make_19
  refine g_iconst C D_Co_make_19 ⟨by decide, by decide⟩ ?_
  exact g_iret C D_Co_make_20
def j_Co_make_88 (σ : gM) : gO :=
  some (σ, (-3))
set_option maxHeartbeats 4000000 in
theorem wj_Co_make_88 {X : gX} (C : gC gctC prog_1_method_16_code kR6 7 7 175 (some .int) X) (σ : gM) : GG gctC X 88 [] [] σ (j_Co_make_88 σ) := by
  unfold j_Co_make_88
  refine g_bipush C D_Co_make_88 (by decide) ⟨by decide, by decide⟩ ?_
  exact g_iret C D_Co_make_90
def l_Co_make_107 (p1 p2 p4 p5 : Int) (rec : gM → Int → gO) (σ : gM) (v6 : Int) : gO :=
  if v6 < p2 then
  (ga (p4 + v6) fun a1 =>
  gk (F_Me_touch σ a1) fun s2 a3 =>
  gk (F_Ca_change s2 p1 a3 0) fun s4 _ =>
  ga (v6 + 1) fun a5 =>
  rec s4 a5)
  else
  (some (σ, p5))
set_option maxHeartbeats 4000000 in
theorem wl_Co_make_107 {X : gX} (C : gC gctC prog_1_method_16_code kR6 7 7 175 (some .int) X) {p1 p2 p4 p5 : Int} : ∀ (n : Nat) (σ : gM) (a0 : Int), GG gctC X 107 [(0, .inr (.inr 0)), (1, .inl p1), (2, .inl p2), (4, .inl p4), (5, .inl p5), (6, .inl a0)] [] σ (gl1 (l_Co_make_107 p1 p2 p4 p5) n σ a0) := by
  refine gl1_run (P := fun σ a0 o => GG gctC X 107 [(0, .inr (.inr 0)), (1, .inl p1), (2, .inl p2), (4, .inl p4), (5, .inl p5), (6, .inl a0)] [] σ o) (fun _ _ => g_none) (fun rec hrec σ v6 => ?_)
  unfold l_Co_make_107
  refine g_iload C D_Co_make_107 5 rfl ?_
  refine g_iload_n C D_Co_make_109 rfl 2 rfl ?_
  refine g_icmp_ge (tgt := 140) C D_Co_make_110 (by decide) ?_ ?_
  · refine g_iload C D_Co_make_140 4 rfl ?_
    exact g_iret C D_Co_make_142
  · refine g_aload_n C D_Co_make_113 rfl 0 rfl ?_
    refine g_getr (ci := 6) C 3 rfl kI6 rfl (by decide) rfl rfl wf_6_34 D_Co_make_114 ?_
    refine g_iload_n C D_Co_make_117 rfl 1 rfl ?_
    refine g_aload_n C D_Co_make_118 rfl 0 rfl ?_
    refine g_getr (ci := 6) C 4 rfl kI6 rfl (by decide) rfl rfl wf_6_43 D_Co_make_119 ?_
    refine g_iload C D_Co_make_122 3 rfl ?_
    refine g_iload C D_Co_make_124 5 rfl ?_
    refine g_iadd C D_Co_make_126 (fun a1 => ?_)
    refine g_callVi (ci := 4) C [.inl a1] [.inl p1, .inr (.inr 9)] (Or.inl rfl) rfl (fun _ h1 h2 h3 => c_Me_touch h1 h2 h3) rfl rfl wc_6_119 (by decide) (Nat.le_of_ble_eq_true rfl) D_Co_make_127 (fun s2 a3 => ?_)
    refine g_iconst C D_Co_make_130 ⟨by decide, by decide⟩ ?_
    refine g_callVv (ci := 0) C [.inl p1, .inl a3, .inl 0] [] rfl rfl (fun _ h1 h2 h3 => c_Ca_change h1 h2 h3) rfl rfl wc_6_122 (by decide) (Nat.le_of_ble_eq_true rfl) D_Co_make_131 (fun s4 _ => ?_)
    refine g_iinc (t := 5) (L' := fun z => [(6, .inl z), (0, .inr (.inr 0)), (1, .inl p1), (2, .inl p2), (4, .inl p4), (5, .inl p5)]) C D_Co_make_134 rfl (by decide) (fun _ => rfl) (fun a5 => ?_)
    refine g_goto (tgt := 107) C D_Co_make_137 (by decide) ?_
    refine g_sub [1, 2, 3, 4, 5, 0] rfl ?_
    exact hrec _ _
def j_Co_make_55 (σ : gM) (v1 v2 v3 : Int) : gO :=
  gk (F_He_roomFor σ v2) fun s1 a2 =>
  gk (F_He_freeNumber s1) fun s3 a4 =>
  if a2 = (-4) then
  (j_Co_make_88 s3)
  else
  (if a4 = (-4) then
  (j_Co_make_88 s3)
  else
  (gk (F_He_place s3 a4 a2 v2 v3) fun s5 _ =>
  gl1 (l_Co_make_107 v1 v2 a2 a4) 200 s5 0))
set_option maxHeartbeats 4000000 in
theorem wj_Co_make_55 {X : gX} (C : gC gctC prog_1_method_16_code kR6 7 7 175 (some .int) X) (σ : gM) (v1 v2 v3 : Int) : GG gctC X 55 [(0, .inr (.inr 0)), (1, .inl v1), (2, .inl v2), (3, .inl v3)] [] σ (j_Co_make_55 σ v1 v2 v3) := by
  unfold j_Co_make_55
  refine g_aload_n C D_Co_make_55 rfl 0 rfl ?_
  refine g_getr (ci := 6) C 5 rfl kI6 rfl (by decide) rfl rfl wf_6_52 D_Co_make_56 ?_
  refine g_iload_n C D_Co_make_59 rfl 2 rfl ?_
  refine g_callVi (ci := 2) C [.inl v2] [] (Or.inl rfl) rfl (fun _ h1 h2 h3 => c_He_roomFor h1 h2 h3) rfl rfl wc_6_135 (by decide) (Nat.le_of_ble_eq_true rfl) D_Co_make_60 (fun s1 a2 => ?_)
  refine g_istore (L' := [(4, .inl a2), (0, .inr (.inr 0)), (1, .inl v1), (2, .inl v2), (3, .inl v3)]) C D_Co_make_63 (by decide) rfl ?_
  refine g_aload_n C D_Co_make_65 rfl 1 rfl ?_
  refine g_getr (ci := 6) C 5 rfl kI6 rfl (by decide) rfl rfl wf_6_52 D_Co_make_66 ?_
  refine g_callVi (ci := 2) C [] [] (Or.inl rfl) rfl (fun _ h1 h2 h3 => c_He_freeNumber h1 h2 h3) rfl rfl wc_6_138 (by decide) (Nat.le_of_ble_eq_true rfl) D_Co_make_69 (fun s3 a4 => ?_)
  refine g_istore (L' := [(5, .inl a4), (4, .inl a2), (0, .inr (.inr 0)), (1, .inl v1), (2, .inl v2), (3, .inl v3)]) C D_Co_make_72 (by decide) rfl ?_
  refine g_iload C D_Co_make_74 1 rfl ?_
  refine g_bipush C D_Co_make_76 (by decide) ⟨by decide, by decide⟩ ?_
  refine g_icmp_eq (tgt := 88) C D_Co_make_78 (by decide) ?_ ?_
  · refine g_sub [] rfl ?_
    exact wj_Co_make_88 C _
  · refine g_iload C D_Co_make_81 0 rfl ?_
    refine g_bipush C D_Co_make_83 (by decide) ⟨by decide, by decide⟩ ?_
    refine g_icmp_ne (tgt := 91) C D_Co_make_85 (by decide) ?_ ?_
    · refine g_aload_n C D_Co_make_91 rfl 2 rfl ?_
      refine g_getr (ci := 6) C 5 rfl kI6 rfl (by decide) rfl rfl wf_6_52 D_Co_make_92 ?_
      refine g_iload C D_Co_make_95 0 rfl ?_
      refine g_iload C D_Co_make_97 1 rfl ?_
      refine g_iload_n C D_Co_make_99 rfl 4 rfl ?_
      refine g_iload_n C D_Co_make_100 rfl 5 rfl ?_
      refine g_callVv (ci := 2) C [.inl a4, .inl a2, .inl v2, .inl v3] [] rfl rfl (fun _ h1 h2 h3 => c_He_place h1 h2 h3) rfl rfl wc_6_145 (by decide) (Nat.le_of_ble_eq_true rfl) D_Co_make_101 (fun s5 _ => ?_)
      refine g_iconst C D_Co_make_104 ⟨by decide, by decide⟩ ?_
      refine g_istore (L' := [(6, .inl 0), (5, .inl a4), (4, .inl a2), (0, .inr (.inr 0)), (1, .inl v1), (2, .inl v2), (3, .inl v3)]) C D_Co_make_105 (by decide) rfl ?_
      refine g_sub [3, 4, 5, 2, 1, 0] rfl ?_
      exact wl_Co_make_107 C 200 _ _
    · refine g_sub [] rfl ?_
      exact wj_Co_make_88 C _
def j_Co_make_46 (σ : gM) (v1 v2 v3 : Int) : gO :=
  gk (F_He_collect σ 0) fun s1 a2 =>
  j_Co_make_55 s1 v1 v2 v3
set_option maxHeartbeats 4000000 in
theorem wj_Co_make_46 {X : gX} (C : gC gctC prog_1_method_16_code kR6 7 7 175 (some .int) X) (σ : gM) (v1 v2 v3 : Int) : GG gctC X 46 [(0, .inr (.inr 0)), (1, .inl v1), (2, .inl v2), (3, .inl v3)] [] σ (j_Co_make_46 σ v1 v2 v3) := by
  unfold j_Co_make_46
  refine g_aload_n C D_Co_make_46 rfl 0 rfl ?_
  refine g_getr (ci := 6) C 5 rfl kI6 rfl (by decide) rfl rfl wf_6_52 D_Co_make_47 ?_
  refine g_iconst C D_Co_make_50 ⟨by decide, by decide⟩ ?_
  refine g_callVi (ci := 2) C [.inl 0] [] (Or.inl rfl) rfl (fun _ h1 h2 h3 => c_He_collect h1 h2 h3) rfl rfl wc_6_142 (by decide) (Nat.le_of_ble_eq_true rfl) D_Co_make_51 (fun s1 a2 => ?_)
  refine g_pop C D_Co_make_54 rfl ?_
  exact wj_Co_make_55 C _ _ _ _
def F_Co_make (σ : gM) (v1 v2 v3 : Int) : gO :=
  gk (F_Co_within σ v1 1) fun s1 a2 =>
  if a2 = 0 then
  (j_Co_make_19 s1)
  else
  (if v2 < 1 then
  (j_Co_make_19 s1)
  else
  (if 24 < v2 then
  (j_Co_make_19 s1)
  else
  (gk (F_He_roomFor s1 v2) fun s3 a4 =>
  if a4 = (-4) then
  (j_Co_make_46 s3 v1 v2 v3)
  else
  (gk (F_He_freeNumber s3) fun s5 a6 =>
  if a6 = (-4) then
  (j_Co_make_46 s5 v1 v2 v3)
  else
  (j_Co_make_55 s5 v1 v2 v3)))))
set_option maxHeartbeats 4000000 in
theorem w_Co_make {X : gX} (C : gC gctC prog_1_method_16_code kR6 7 7 175 (some .int) X) (σ : gM) (v1 v2 v3 : Int) : GG gctC X 0 [(0, .inr (.inr 0)), (1, .inl v1), (2, .inl v2), (3, .inl v3)] [] σ (F_Co_make σ v1 v2 v3) := by
  unfold F_Co_make
  refine g_iload_n C D_Co_make_0 rfl 1 rfl ?_
  refine g_iconst C D_Co_make_1 ⟨by decide, by decide⟩ ?_
  refine g_callSi C [.inl v1, .inl 1] [] (Or.inr rfl) rfl (fun _ h1 h2 h3 => c_Co_within h1 h2 h3) wc_6_56 (by decide) (Nat.le_of_ble_eq_true rfl) D_Co_make_2 (fun s1 a2 => ?_)
  refine g_if_eq (tgt := 19) C D_Co_make_5 (by decide) ?_ ?_
  · refine g_sub [] rfl ?_
    exact wj_Co_make_19 C _
  · refine g_iload_n C D_Co_make_8 rfl 2 rfl ?_
    refine g_iconst C D_Co_make_9 ⟨by decide, by decide⟩ ?_
    refine g_icmp_lt (tgt := 19) C D_Co_make_10 (by decide) ?_ ?_
    · refine g_sub [] rfl ?_
      exact wj_Co_make_19 C _
    · refine g_iload_n C D_Co_make_13 rfl 2 rfl ?_
      refine g_bipush C D_Co_make_14 (by decide) ⟨by decide, by decide⟩ ?_
      refine g_icmp_le (tgt := 21) C D_Co_make_16 (by decide) ?_ ?_
      · refine g_aload_n C D_Co_make_21 rfl 0 rfl ?_
        refine g_getr (ci := 6) C 5 rfl kI6 rfl (by decide) rfl rfl wf_6_52 D_Co_make_22 ?_
        refine g_iload_n C D_Co_make_25 rfl 2 rfl ?_
        refine g_callVi (ci := 2) C [.inl v2] [] (Or.inl rfl) rfl (fun _ h1 h2 h3 => c_He_roomFor h1 h2 h3) rfl rfl wc_6_135 (by decide) (Nat.le_of_ble_eq_true rfl) D_Co_make_26 (fun s3 a4 => ?_)
        refine g_bipush C D_Co_make_29 (by decide) ⟨by decide, by decide⟩ ?_
        refine g_icmp_eq (tgt := 46) C D_Co_make_31 (by decide) ?_ ?_
        · exact wj_Co_make_46 C _ _ _ _
        · refine g_aload_n C D_Co_make_34 rfl 0 rfl ?_
          refine g_getr (ci := 6) C 5 rfl kI6 rfl (by decide) rfl rfl wf_6_52 D_Co_make_35 ?_
          refine g_callVi (ci := 2) C [] [] (Or.inl rfl) rfl (fun _ h1 h2 h3 => c_He_freeNumber h1 h2 h3) rfl rfl wc_6_138 (by decide) (Nat.le_of_ble_eq_true rfl) D_Co_make_38 (fun s5 a6 => ?_)
          refine g_bipush C D_Co_make_41 (by decide) ⟨by decide, by decide⟩ ?_
          refine g_icmp_ne (tgt := 55) C D_Co_make_43 (by decide) ?_ ?_
          · exact wj_Co_make_55 C _ _ _ _
          · exact wj_Co_make_46 C _ _ _ _
      · refine g_sub [] rfl ?_
        exact wj_Co_make_19 C _
theorem c_Co_make {σ : gM} {v1 v2 v3 : Int} {r : gR} (ho : F_Co_make σ v1 v2 v3 = some r) (hok : gOk [.inr (.inr 0), .inl v1, .inl v2, .inl v3]) (hin : gIn gctC σ) : gCt gctC Y_Co_make prog_1_method_16_code 7 (some .int) 7 175 [.inr (.inr 0), .inl v1, .inl v2, .inl v3] σ r := g_entry (by decide) rfl (Nat.le_of_ble_eq_true rfl) ho hok hin (fun X C => w_Co_make C σ v1 v2 v3)
theorem D_Co_get_0 : decode prog_1_method_17_code 0 = .ok (.iload_n 1, 1) := by decide +kernel
theorem D_Co_get_1 : decode prog_1_method_17_code 1 = .ok (.iconst 1, 1) := by decide +kernel
theorem D_Co_get_2 : decode prog_1_method_17_code 2 = .ok (.invokestatic 56, 3) := by decide +kernel
theorem D_Co_get_5 : decode prog_1_method_17_code 5 = .ok (.ifCond .eq 15, 3) := by decide +kernel
theorem D_Co_get_8 : decode prog_1_method_17_code 8 = .ok (.aload_n 0, 1) := by decide +kernel
theorem D_Co_get_9 : decode prog_1_method_17_code 9 = .ok (.getfield 52, 3) := by decide +kernel
theorem D_Co_get_12 : decode prog_1_method_17_code 12 = .ok (.iload_n 2, 1) := by decide +kernel
theorem D_Co_get_13 : decode prog_1_method_17_code 13 = .ok (.iload_n 3, 1) := by decide +kernel
theorem D_Co_get_14 : decode prog_1_method_17_code 14 = .ok (.invokevirtual 149, 3) := by decide +kernel
theorem D_Co_get_17 : decode prog_1_method_17_code 17 = .ok (.ifCond .ne 5, 3) := by decide +kernel
theorem D_Co_get_20 : decode prog_1_method_17_code 20 = .ok (.iconst (-1), 1) := by decide +kernel
theorem D_Co_get_21 : decode prog_1_method_17_code 21 = .ok (.ireturn, 1) := by decide +kernel
theorem D_Co_get_22 : decode prog_1_method_17_code 22 = .ok (.aload_n 0, 1) := by decide +kernel
theorem D_Co_get_23 : decode prog_1_method_17_code 23 = .ok (.getfield 16, 3) := by decide +kernel
theorem D_Co_get_26 : decode prog_1_method_17_code 26 = .ok (.getfield 116, 3) := by decide +kernel
theorem D_Co_get_29 : decode prog_1_method_17_code 29 = .ok (.bipush 14, 2) := by decide +kernel
theorem D_Co_get_31 : decode prog_1_method_17_code 31 = .ok (.iaload, 1) := by decide +kernel
theorem D_Co_get_32 : decode prog_1_method_17_code 32 = .ok (.istore 4, 2) := by decide +kernel
theorem D_Co_get_34 : decode prog_1_method_17_code 34 = .ok (.aload_n 0, 1) := by decide +kernel
theorem D_Co_get_35 : decode prog_1_method_17_code 35 = .ok (.iload_n 1, 1) := by decide +kernel
theorem D_Co_get_36 : decode prog_1_method_17_code 36 = .ok (.aload_n 0, 1) := by decide +kernel
theorem D_Co_get_37 : decode prog_1_method_17_code 37 = .ok (.getfield 52, 3) := by decide +kernel
theorem D_Co_get_40 : decode prog_1_method_17_code 40 = .ok (.getfield 152, 3) := by decide +kernel
theorem D_Co_get_43 : decode prog_1_method_17_code 43 = .ok (.iload_n 2, 1) := by decide +kernel
theorem D_Co_get_44 : decode prog_1_method_17_code 44 = .ok (.iaload, 1) := by decide +kernel
theorem D_Co_get_45 : decode prog_1_method_17_code 45 = .ok (.iload_n 3, 1) := by decide +kernel
theorem D_Co_get_46 : decode prog_1_method_17_code 46 = .ok (.iadd, 1) := by decide +kernel
theorem D_Co_get_47 : decode prog_1_method_17_code 47 = .ok (.invokevirtual 112, 3) := by decide +kernel
theorem D_Co_get_50 : decode prog_1_method_17_code 50 = .ok (.istore 5, 2) := by decide +kernel
theorem D_Co_get_52 : decode prog_1_method_17_code 52 = .ok (.aload_n 0, 1) := by decide +kernel
theorem D_Co_get_53 : decode prog_1_method_17_code 53 = .ok (.getfield 52, 3) := by decide +kernel
theorem D_Co_get_56 : decode prog_1_method_17_code 56 = .ok (.getfield 155, 3) := by decide +kernel
theorem D_Co_get_59 : decode prog_1_method_17_code 59 = .ok (.iload_n 2, 1) := by decide +kernel
theorem D_Co_get_60 : decode prog_1_method_17_code 60 = .ok (.dup2, 1) := by decide +kernel
theorem D_Co_get_61 : decode prog_1_method_17_code 61 = .ok (.iaload, 1) := by decide +kernel
theorem D_Co_get_62 : decode prog_1_method_17_code 62 = .ok (.aload_n 0, 1) := by decide +kernel
theorem D_Co_get_63 : decode prog_1_method_17_code 63 = .ok (.getfield 16, 3) := by decide +kernel
theorem D_Co_get_66 : decode prog_1_method_17_code 66 = .ok (.getfield 116, 3) := by decide +kernel
theorem D_Co_get_69 : decode prog_1_method_17_code 69 = .ok (.bipush 14, 2) := by decide +kernel
theorem D_Co_get_71 : decode prog_1_method_17_code 71 = .ok (.iaload, 1) := by decide +kernel
theorem D_Co_get_72 : decode prog_1_method_17_code 72 = .ok (.iload 4, 2) := by decide +kernel
theorem D_Co_get_74 : decode prog_1_method_17_code 74 = .ok (.isub, 1) := by decide +kernel
theorem D_Co_get_75 : decode prog_1_method_17_code 75 = .ok (.iadd, 1) := by decide +kernel
theorem D_Co_get_76 : decode prog_1_method_17_code 76 = .ok (.iastore, 1) := by decide +kernel
theorem D_Co_get_77 : decode prog_1_method_17_code 77 = .ok (.iload 5, 2) := by decide +kernel
theorem D_Co_get_79 : decode prog_1_method_17_code 79 = .ok (.ireturn, 1) := by decide +kernel
def j_Co_get_20 (σ : gM) : gO :=
  some (σ, (-1))
set_option maxHeartbeats 4000000 in
theorem wj_Co_get_20 {X : gX} (C : gC gctC prog_1_method_17_code kR6 6 6 146 (some .int) X) (σ : gM) : GG gctC X 20 [] [] σ (j_Co_get_20 σ) := by
  unfold j_Co_get_20
  refine g_iconst C D_Co_get_20 ⟨by decide, by decide⟩ ?_
  exact g_iret C D_Co_get_21
def F_Co_get (σ : gM) (v1 v2 v3 : Int) : gO :=
  gk (F_Co_within σ v1 1) fun s1 a2 =>
  if a2 = 0 then
  (j_Co_get_20 s1)
  else
  (gk (F_He_hasField s1 v2 v3) fun s3 a4 =>
  if a4 = 0 then
  (j_Co_get_20 s3)
  else
  (gi 14 16 <|
  gv (s3 4 14) fun a5 =>
  gi v2 40 <|
  ga ((s3 29 v2) + v3) fun a6 =>
  gk (F_Co_loadTold s3 v1 a6) fun s7 a8 =>
  gi v2 40 <|
  gi 14 16 <|
  ga ((s7 4 14) - a5) fun a9 =>
  ga ((s7 33 v2) + a9) fun a10 =>
  gw s7 33 40 v2 a10 fun s11 =>
  some (s11, a8)))
set_option maxHeartbeats 4000000 in
theorem w_Co_get {X : gX} (C : gC gctC prog_1_method_17_code kR6 6 6 146 (some .int) X) (σ : gM) (v1 v2 v3 : Int) : GG gctC X 0 [(0, .inr (.inr 0)), (1, .inl v1), (2, .inl v2), (3, .inl v3)] [] σ (F_Co_get σ v1 v2 v3) := by
  unfold F_Co_get
  refine g_iload_n C D_Co_get_0 rfl 1 rfl ?_
  refine g_iconst C D_Co_get_1 ⟨by decide, by decide⟩ ?_
  refine g_callSi C [.inl v1, .inl 1] [] (Or.inr rfl) rfl (fun _ h1 h2 h3 => c_Co_within h1 h2 h3) wc_6_56 (by decide) (Nat.le_of_ble_eq_true rfl) D_Co_get_2 (fun s1 a2 => ?_)
  refine g_if_eq (tgt := 20) C D_Co_get_5 (by decide) ?_ ?_
  · refine g_sub [] rfl ?_
    exact wj_Co_get_20 C _
  · refine g_aload_n C D_Co_get_8 rfl 0 rfl ?_
    refine g_getr (ci := 6) C 5 rfl kI6 rfl (by decide) rfl rfl wf_6_52 D_Co_get_9 ?_
    refine g_iload_n C D_Co_get_12 rfl 2 rfl ?_
    refine g_iload_n C D_Co_get_13 rfl 3 rfl ?_
    refine g_callVi (ci := 2) C [.inl v2, .inl v3] [] (Or.inr rfl) rfl (fun _ h1 h2 h3 => c_He_hasField h1 h2 h3) rfl rfl wc_6_149 (by decide) (Nat.le_of_ble_eq_true rfl) D_Co_get_14 (fun s3 a4 => ?_)
    refine g_if_ne (tgt := 22) C D_Co_get_17 (by decide) ?_ ?_
    · refine g_aload_n C D_Co_get_22 rfl 0 rfl ?_
      refine g_getr (ci := 6) C 1 rfl kI6 rfl (by decide) rfl rfl wf_6_16 D_Co_get_23 ?_
      refine g_getr (ci := 3) C 1 rfl kI3 rfl (by decide) rfl rfl wf_6_116 D_Co_get_26 ?_
      refine g_bipush C D_Co_get_29 (by decide) ⟨by decide, by decide⟩ ?_
      refine g_iald C rfl rfl rfl D_Co_get_31 ?_
      refine g_let C (fun a5 => ?_)
      refine g_istore (L' := [(4, .inl a5), (0, .inr (.inr 0)), (1, .inl v1), (2, .inl v2), (3, .inl v3)]) C D_Co_get_32 (by decide) rfl ?_
      refine g_aload_n C D_Co_get_34 rfl 1 rfl ?_
      refine g_iload_n C D_Co_get_35 rfl 2 rfl ?_
      refine g_aload_n C D_Co_get_36 rfl 1 rfl ?_
      refine g_getr (ci := 6) C 5 rfl kI6 rfl (by decide) rfl rfl wf_6_52 D_Co_get_37 ?_
      refine g_getr (ci := 2) C 0 rfl kI2 rfl (by decide) rfl rfl wf_6_152 D_Co_get_40 ?_
      refine g_iload_n C D_Co_get_43 rfl 3 rfl ?_
      refine g_iald C rfl rfl rfl D_Co_get_44 ?_
      refine g_iload_n C D_Co_get_45 rfl 4 rfl ?_
      refine g_iadd C D_Co_get_46 (fun a6 => ?_)
      refine g_callVi (ci := 6) C [.inl v1, .inl a6] [] (Or.inl rfl) rfl (fun _ h1 h2 h3 => c_Co_loadTold h1 h2 h3) rfl rfl wc_6_112 (by decide) (Nat.le_of_ble_eq_true rfl) D_Co_get_47 (fun s7 a8 => ?_)
      refine g_istore (L' := [(5, .inl a8), (4, .inl a5), (0, .inr (.inr 0)), (1, .inl v1), (2, .inl v2), (3, .inl v3)]) C D_Co_get_50 (by decide) rfl ?_
      refine g_aload_n C D_Co_get_52 rfl 2 rfl ?_
      refine g_getr (ci := 6) C 5 rfl kI6 rfl (by decide) rfl rfl wf_6_52 D_Co_get_53 ?_
      refine g_getr (ci := 2) C 4 rfl kI2 rfl (by decide) rfl rfl wf_6_155 D_Co_get_56 ?_
      refine g_iload_n C D_Co_get_59 rfl 4 rfl ?_
      refine g_dup2 C D_Co_get_60 rfl rfl ?_
      refine g_iald C rfl rfl rfl D_Co_get_61 ?_
      refine g_aload_n C D_Co_get_62 rfl 2 rfl ?_
      refine g_getr (ci := 6) C 1 rfl kI6 rfl (by decide) rfl rfl wf_6_16 D_Co_get_63 ?_
      refine g_getr (ci := 3) C 1 rfl kI3 rfl (by decide) rfl rfl wf_6_116 D_Co_get_66 ?_
      refine g_bipush C D_Co_get_69 (by decide) ⟨by decide, by decide⟩ ?_
      refine g_iald C rfl rfl rfl D_Co_get_71 ?_
      refine g_iload C D_Co_get_72 1 rfl ?_
      refine g_isub C D_Co_get_74 (fun a9 => ?_)
      refine g_iadd C D_Co_get_75 (fun a10 => ?_)
      refine g_iast C rfl rfl D_Co_get_76 (fun s11 => ?_)
      refine g_iload C D_Co_get_77 0 rfl ?_
      exact g_iret C D_Co_get_79
    · refine g_sub [] rfl ?_
      exact wj_Co_get_20 C _
theorem c_Co_get {σ : gM} {v1 v2 v3 : Int} {r : gR} (ho : F_Co_get σ v1 v2 v3 = some r) (hok : gOk [.inr (.inr 0), .inl v1, .inl v2, .inl v3]) (hin : gIn gctC σ) : gCt gctC Y_Co_get prog_1_method_17_code 6 (some .int) 6 146 [.inr (.inr 0), .inl v1, .inl v2, .inl v3] σ r := g_entry (by decide) rfl (Nat.le_of_ble_eq_true rfl) ho hok hin (fun X C => w_Co_get C σ v1 v2 v3)
theorem D_Co_put_0 : decode prog_1_method_18_code 0 = .ok (.iload_n 1, 1) := by decide +kernel
theorem D_Co_put_1 : decode prog_1_method_18_code 1 = .ok (.iconst 1, 1) := by decide +kernel
theorem D_Co_put_2 : decode prog_1_method_18_code 2 = .ok (.invokestatic 56, 3) := by decide +kernel
theorem D_Co_put_5 : decode prog_1_method_18_code 5 = .ok (.ifCond .eq 15, 3) := by decide +kernel
theorem D_Co_put_8 : decode prog_1_method_18_code 8 = .ok (.aload_n 0, 1) := by decide +kernel
theorem D_Co_put_9 : decode prog_1_method_18_code 9 = .ok (.getfield 52, 3) := by decide +kernel
theorem D_Co_put_12 : decode prog_1_method_18_code 12 = .ok (.iload_n 2, 1) := by decide +kernel
theorem D_Co_put_13 : decode prog_1_method_18_code 13 = .ok (.iload_n 3, 1) := by decide +kernel
theorem D_Co_put_14 : decode prog_1_method_18_code 14 = .ok (.invokevirtual 149, 3) := by decide +kernel
theorem D_Co_put_17 : decode prog_1_method_18_code 17 = .ok (.ifCond .ne 5, 3) := by decide +kernel
theorem D_Co_put_20 : decode prog_1_method_18_code 20 = .ok (.iconst (-1), 1) := by decide +kernel
theorem D_Co_put_21 : decode prog_1_method_18_code 21 = .ok (.ireturn, 1) := by decide +kernel
theorem D_Co_put_22 : decode prog_1_method_18_code 22 = .ok (.iload 4, 2) := by decide +kernel
theorem D_Co_put_24 : decode prog_1_method_18_code 24 = .ok (.sipush 167, 3) := by decide +kernel
theorem D_Co_put_27 : decode prog_1_method_18_code 27 = .ok (.invokestatic 56, 3) := by decide +kernel
theorem D_Co_put_30 : decode prog_1_method_18_code 30 = .ok (.ifCond .ne 5, 3) := by decide +kernel
theorem D_Co_put_33 : decode prog_1_method_18_code 33 = .ok (.iconst (-1), 1) := by decide +kernel
theorem D_Co_put_34 : decode prog_1_method_18_code 34 = .ok (.ireturn, 1) := by decide +kernel
theorem D_Co_put_35 : decode prog_1_method_18_code 35 = .ok (.iload 4, 2) := by decide +kernel
theorem D_Co_put_37 : decode prog_1_method_18_code 37 = .ok (.sipush 128, 3) := by decide +kernel
theorem D_Co_put_40 : decode prog_1_method_18_code 40 = .ok (.if_icmp .lt 22, 3) := by decide +kernel
theorem D_Co_put_43 : decode prog_1_method_18_code 43 = .ok (.aload_n 0, 1) := by decide +kernel
theorem D_Co_put_44 : decode prog_1_method_18_code 44 = .ok (.getfield 52, 3) := by decide +kernel
theorem D_Co_put_47 : decode prog_1_method_18_code 47 = .ok (.iload 4, 2) := by decide +kernel
theorem D_Co_put_49 : decode prog_1_method_18_code 49 = .ok (.sipush 128, 3) := by decide +kernel
theorem D_Co_put_52 : decode prog_1_method_18_code 52 = .ok (.isub, 1) := by decide +kernel
theorem D_Co_put_53 : decode prog_1_method_18_code 53 = .ok (.invokevirtual 158, 3) := by decide +kernel
theorem D_Co_put_56 : decode prog_1_method_18_code 56 = .ok (.ifCond .ne 6, 3) := by decide +kernel
theorem D_Co_put_59 : decode prog_1_method_18_code 59 = .ok (.bipush (-2), 2) := by decide +kernel
theorem D_Co_put_61 : decode prog_1_method_18_code 61 = .ok (.ireturn, 1) := by decide +kernel
theorem D_Co_put_62 : decode prog_1_method_18_code 62 = .ok (.aload_n 0, 1) := by decide +kernel
theorem D_Co_put_63 : decode prog_1_method_18_code 63 = .ok (.getfield 16, 3) := by decide +kernel
theorem D_Co_put_66 : decode prog_1_method_18_code 66 = .ok (.getfield 116, 3) := by decide +kernel
theorem D_Co_put_69 : decode prog_1_method_18_code 69 = .ok (.bipush 14, 2) := by decide +kernel
theorem D_Co_put_71 : decode prog_1_method_18_code 71 = .ok (.iaload, 1) := by decide +kernel
theorem D_Co_put_72 : decode prog_1_method_18_code 72 = .ok (.istore 5, 2) := by decide +kernel
theorem D_Co_put_74 : decode prog_1_method_18_code 74 = .ok (.aload_n 0, 1) := by decide +kernel
theorem D_Co_put_75 : decode prog_1_method_18_code 75 = .ok (.getfield 34, 3) := by decide +kernel
theorem D_Co_put_78 : decode prog_1_method_18_code 78 = .ok (.iload_n 1, 1) := by decide +kernel
theorem D_Co_put_79 : decode prog_1_method_18_code 79 = .ok (.aload_n 0, 1) := by decide +kernel
theorem D_Co_put_80 : decode prog_1_method_18_code 80 = .ok (.getfield 43, 3) := by decide +kernel
theorem D_Co_put_83 : decode prog_1_method_18_code 83 = .ok (.aload_n 0, 1) := by decide +kernel
theorem D_Co_put_84 : decode prog_1_method_18_code 84 = .ok (.getfield 52, 3) := by decide +kernel
theorem D_Co_put_87 : decode prog_1_method_18_code 87 = .ok (.getfield 152, 3) := by decide +kernel
theorem D_Co_put_90 : decode prog_1_method_18_code 90 = .ok (.iload_n 2, 1) := by decide +kernel
theorem D_Co_put_91 : decode prog_1_method_18_code 91 = .ok (.iaload, 1) := by decide +kernel
theorem D_Co_put_92 : decode prog_1_method_18_code 92 = .ok (.iload_n 3, 1) := by decide +kernel
theorem D_Co_put_93 : decode prog_1_method_18_code 93 = .ok (.iadd, 1) := by decide +kernel
theorem D_Co_put_94 : decode prog_1_method_18_code 94 = .ok (.invokevirtual 119, 3) := by decide +kernel
theorem D_Co_put_97 : decode prog_1_method_18_code 97 = .ok (.iload 4, 2) := by decide +kernel
theorem D_Co_put_99 : decode prog_1_method_18_code 99 = .ok (.invokevirtual 122, 3) := by decide +kernel
theorem D_Co_put_102 : decode prog_1_method_18_code 102 = .ok (.aload_n 0, 1) := by decide +kernel
theorem D_Co_put_103 : decode prog_1_method_18_code 103 = .ok (.getfield 16, 3) := by decide +kernel
theorem D_Co_put_106 : decode prog_1_method_18_code 106 = .ok (.getfield 116, 3) := by decide +kernel
theorem D_Co_put_109 : decode prog_1_method_18_code 109 = .ok (.bipush 14, 2) := by decide +kernel
theorem D_Co_put_111 : decode prog_1_method_18_code 111 = .ok (.iaload, 1) := by decide +kernel
theorem D_Co_put_112 : decode prog_1_method_18_code 112 = .ok (.iload 5, 2) := by decide +kernel
theorem D_Co_put_114 : decode prog_1_method_18_code 114 = .ok (.isub, 1) := by decide +kernel
theorem D_Co_put_115 : decode prog_1_method_18_code 115 = .ok (.istore 6, 2) := by decide +kernel
theorem D_Co_put_117 : decode prog_1_method_18_code 117 = .ok (.aload_n 0, 1) := by decide +kernel
theorem D_Co_put_118 : decode prog_1_method_18_code 118 = .ok (.getfield 52, 3) := by decide +kernel
theorem D_Co_put_121 : decode prog_1_method_18_code 121 = .ok (.getfield 155, 3) := by decide +kernel
theorem D_Co_put_124 : decode prog_1_method_18_code 124 = .ok (.iload_n 2, 1) := by decide +kernel
theorem D_Co_put_125 : decode prog_1_method_18_code 125 = .ok (.dup2, 1) := by decide +kernel
theorem D_Co_put_126 : decode prog_1_method_18_code 126 = .ok (.iaload, 1) := by decide +kernel
theorem D_Co_put_127 : decode prog_1_method_18_code 127 = .ok (.iload 6, 2) := by decide +kernel
theorem D_Co_put_129 : decode prog_1_method_18_code 129 = .ok (.iadd, 1) := by decide +kernel
theorem D_Co_put_130 : decode prog_1_method_18_code 130 = .ok (.iastore, 1) := by decide +kernel
theorem D_Co_put_131 : decode prog_1_method_18_code 131 = .ok (.iload 6, 2) := by decide +kernel
theorem D_Co_put_133 : decode prog_1_method_18_code 133 = .ok (.ireturn, 1) := by decide +kernel
def j_Co_put_20 (σ : gM) : gO :=
  some (σ, (-1))
set_option maxHeartbeats 4000000 in
theorem wj_Co_put_20 {X : gX} (C : gC gctC prog_1_method_18_code kR6 7 5 125 (some .int) X) (σ : gM) : GG gctC X 20 [] [] σ (j_Co_put_20 σ) := by
  unfold j_Co_put_20
  refine g_iconst C D_Co_put_20 ⟨by decide, by decide⟩ ?_
  exact g_iret C D_Co_put_21
def j_Co_put_62 (σ : gM) (v1 v2 v3 v4 : Int) : gO :=
  gi 14 16 <|
  gv (σ 4 14) fun a1 =>
  gi v2 40 <|
  ga ((σ 29 v2) + v3) fun a2 =>
  gk (F_Me_touch σ a2) fun s3 a4 =>
  gk (F_Ca_change s3 v1 a4 v4) fun s5 _ =>
  gi 14 16 <|
  ga ((s5 4 14) - a1) fun a6 =>
  gi v2 40 <|
  ga ((s5 33 v2) + a6) fun a7 =>
  gw s5 33 40 v2 a7 fun s8 =>
  some (s8, a6)
set_option maxHeartbeats 4000000 in
theorem wj_Co_put_62 {X : gX} (C : gC gctC prog_1_method_18_code kR6 7 5 125 (some .int) X) (σ : gM) (v1 v2 v3 v4 : Int) : GG gctC X 62 [(0, .inr (.inr 0)), (1, .inl v1), (2, .inl v2), (3, .inl v3), (4, .inl v4)] [] σ (j_Co_put_62 σ v1 v2 v3 v4) := by
  unfold j_Co_put_62
  refine g_aload_n C D_Co_put_62 rfl 0 rfl ?_
  refine g_getr (ci := 6) C 1 rfl kI6 rfl (by decide) rfl rfl wf_6_16 D_Co_put_63 ?_
  refine g_getr (ci := 3) C 1 rfl kI3 rfl (by decide) rfl rfl wf_6_116 D_Co_put_66 ?_
  refine g_bipush C D_Co_put_69 (by decide) ⟨by decide, by decide⟩ ?_
  refine g_iald C rfl rfl rfl D_Co_put_71 ?_
  refine g_let C (fun a1 => ?_)
  refine g_istore (L' := [(5, .inl a1), (0, .inr (.inr 0)), (1, .inl v1), (2, .inl v2), (3, .inl v3), (4, .inl v4)]) C D_Co_put_72 (by decide) rfl ?_
  refine g_aload_n C D_Co_put_74 rfl 1 rfl ?_
  refine g_getr (ci := 6) C 3 rfl kI6 rfl (by decide) rfl rfl wf_6_34 D_Co_put_75 ?_
  refine g_iload_n C D_Co_put_78 rfl 2 rfl ?_
  refine g_aload_n C D_Co_put_79 rfl 1 rfl ?_
  refine g_getr (ci := 6) C 4 rfl kI6 rfl (by decide) rfl rfl wf_6_43 D_Co_put_80 ?_
  refine g_aload_n C D_Co_put_83 rfl 1 rfl ?_
  refine g_getr (ci := 6) C 5 rfl kI6 rfl (by decide) rfl rfl wf_6_52 D_Co_put_84 ?_
  refine g_getr (ci := 2) C 0 rfl kI2 rfl (by decide) rfl rfl wf_6_152 D_Co_put_87 ?_
  refine g_iload_n C D_Co_put_90 rfl 3 rfl ?_
  refine g_iald C rfl rfl rfl D_Co_put_91 ?_
  refine g_iload_n C D_Co_put_92 rfl 4 rfl ?_
  refine g_iadd C D_Co_put_93 (fun a2 => ?_)
  refine g_callVi (ci := 4) C [.inl a2] [.inl v1, .inr (.inr 9)] (Or.inl rfl) rfl (fun _ h1 h2 h3 => c_Me_touch h1 h2 h3) rfl rfl wc_6_119 (by decide) (Nat.le_of_ble_eq_true rfl) D_Co_put_94 (fun s3 a4 => ?_)
  refine g_iload C D_Co_put_97 5 rfl ?_
  refine g_callVv (ci := 0) C [.inl v1, .inl a4, .inl v4] [] rfl rfl (fun _ h1 h2 h3 => c_Ca_change h1 h2 h3) rfl rfl wc_6_122 (by decide) (Nat.le_of_ble_eq_true rfl) D_Co_put_99 (fun s5 _ => ?_)
  refine g_aload_n C D_Co_put_102 rfl 1 rfl ?_
  refine g_getr (ci := 6) C 1 rfl kI6 rfl (by decide) rfl rfl wf_6_16 D_Co_put_103 ?_
  refine g_getr (ci := 3) C 1 rfl kI3 rfl (by decide) rfl rfl wf_6_116 D_Co_put_106 ?_
  refine g_bipush C D_Co_put_109 (by decide) ⟨by decide, by decide⟩ ?_
  refine g_iald C rfl rfl rfl D_Co_put_111 ?_
  refine g_iload C D_Co_put_112 0 rfl ?_
  refine g_isub C D_Co_put_114 (fun a6 => ?_)
  refine g_istore (L' := [(6, .inl a6), (5, .inl a1), (0, .inr (.inr 0)), (1, .inl v1), (2, .inl v2), (3, .inl v3), (4, .inl v4)]) C D_Co_put_115 (by decide) rfl ?_
  refine g_aload_n C D_Co_put_117 rfl 2 rfl ?_
  refine g_getr (ci := 6) C 5 rfl kI6 rfl (by decide) rfl rfl wf_6_52 D_Co_put_118 ?_
  refine g_getr (ci := 2) C 4 rfl kI2 rfl (by decide) rfl rfl wf_6_155 D_Co_put_121 ?_
  refine g_iload_n C D_Co_put_124 rfl 4 rfl ?_
  refine g_dup2 C D_Co_put_125 rfl rfl ?_
  refine g_iald C rfl rfl rfl D_Co_put_126 ?_
  refine g_iload C D_Co_put_127 0 rfl ?_
  refine g_iadd C D_Co_put_129 (fun a7 => ?_)
  refine g_iast C rfl rfl D_Co_put_130 (fun s8 => ?_)
  refine g_iload C D_Co_put_131 0 rfl ?_
  exact g_iret C D_Co_put_133
def F_Co_put (σ : gM) (v1 v2 v3 v4 : Int) : gO :=
  gk (F_Co_within σ v1 1) fun s1 a2 =>
  if a2 = 0 then
  (j_Co_put_20 s1)
  else
  (gk (F_He_hasField s1 v2 v3) fun s3 a4 =>
  if a4 = 0 then
  (j_Co_put_20 s3)
  else
  (gk (F_Co_within s3 v4 167) fun s5 a6 =>
  if a6 = 0 then
  (some (s5, (-1)))
  else
  (if v4 < 128 then
  (j_Co_put_62 s5 v1 v2 v3 v4)
  else
  (ga (v4 - 128) fun a7 =>
  gk (F_He_has s5 a7) fun s8 a9 =>
  if a9 = 0 then
  (some (s8, (-2)))
  else
  (j_Co_put_62 s8 v1 v2 v3 v4)))))
set_option maxHeartbeats 4000000 in
theorem w_Co_put {X : gX} (C : gC gctC prog_1_method_18_code kR6 7 5 125 (some .int) X) (σ : gM) (v1 v2 v3 v4 : Int) : GG gctC X 0 [(0, .inr (.inr 0)), (1, .inl v1), (2, .inl v2), (3, .inl v3), (4, .inl v4)] [] σ (F_Co_put σ v1 v2 v3 v4) := by
  unfold F_Co_put
  refine g_iload_n C D_Co_put_0 rfl 1 rfl ?_
  refine g_iconst C D_Co_put_1 ⟨by decide, by decide⟩ ?_
  refine g_callSi C [.inl v1, .inl 1] [] (Or.inr rfl) rfl (fun _ h1 h2 h3 => c_Co_within h1 h2 h3) wc_6_56 (by decide) (Nat.le_of_ble_eq_true rfl) D_Co_put_2 (fun s1 a2 => ?_)
  refine g_if_eq (tgt := 20) C D_Co_put_5 (by decide) ?_ ?_
  · refine g_sub [] rfl ?_
    exact wj_Co_put_20 C _
  · refine g_aload_n C D_Co_put_8 rfl 0 rfl ?_
    refine g_getr (ci := 6) C 5 rfl kI6 rfl (by decide) rfl rfl wf_6_52 D_Co_put_9 ?_
    refine g_iload_n C D_Co_put_12 rfl 2 rfl ?_
    refine g_iload_n C D_Co_put_13 rfl 3 rfl ?_
    refine g_callVi (ci := 2) C [.inl v2, .inl v3] [] (Or.inr rfl) rfl (fun _ h1 h2 h3 => c_He_hasField h1 h2 h3) rfl rfl wc_6_149 (by decide) (Nat.le_of_ble_eq_true rfl) D_Co_put_14 (fun s3 a4 => ?_)
    refine g_if_ne (tgt := 22) C D_Co_put_17 (by decide) ?_ ?_
    · refine g_iload C D_Co_put_22 4 rfl ?_
      refine g_sipush C D_Co_put_24 (by decide) ⟨by decide, by decide⟩ ?_
      refine g_callSi C [.inl v4, .inl 167] [] (Or.inr rfl) rfl (fun _ h1 h2 h3 => c_Co_within h1 h2 h3) wc_6_56 (by decide) (Nat.le_of_ble_eq_true rfl) D_Co_put_27 (fun s5 a6 => ?_)
      refine g_if_ne (tgt := 35) C D_Co_put_30 (by decide) ?_ ?_
      · refine g_iload C D_Co_put_35 4 rfl ?_
        refine g_sipush C D_Co_put_37 (by decide) ⟨by decide, by decide⟩ ?_
        refine g_icmp_lt (tgt := 62) C D_Co_put_40 (by decide) ?_ ?_
        · exact wj_Co_put_62 C _ _ _ _ _
        · refine g_aload_n C D_Co_put_43 rfl 0 rfl ?_
          refine g_getr (ci := 6) C 5 rfl kI6 rfl (by decide) rfl rfl wf_6_52 D_Co_put_44 ?_
          refine g_iload C D_Co_put_47 4 rfl ?_
          refine g_sipush C D_Co_put_49 (by decide) ⟨by decide, by decide⟩ ?_
          refine g_isub C D_Co_put_52 (fun a7 => ?_)
          refine g_callVi (ci := 2) C [.inl a7] [] (Or.inr rfl) rfl (fun _ h1 h2 h3 => c_He_has h1 h2 h3) rfl rfl wc_6_158 (by decide) (Nat.le_of_ble_eq_true rfl) D_Co_put_53 (fun s8 a9 => ?_)
          refine g_if_ne (tgt := 62) C D_Co_put_56 (by decide) ?_ ?_
          · exact wj_Co_put_62 C _ _ _ _ _
          · refine g_bipush C D_Co_put_59 (by decide) ⟨by decide, by decide⟩ ?_
            exact g_iret C D_Co_put_61
      · refine g_iconst C D_Co_put_33 ⟨by decide, by decide⟩ ?_
        exact g_iret C D_Co_put_34
    · refine g_sub [] rfl ?_
      exact wj_Co_put_20 C _
theorem c_Co_put {σ : gM} {v1 v2 v3 v4 : Int} {r : gR} (ho : F_Co_put σ v1 v2 v3 v4 = some r) (hok : gOk [.inr (.inr 0), .inl v1, .inl v2, .inl v3, .inl v4]) (hin : gIn gctC σ) : gCt gctC Y_Co_put prog_1_method_18_code 7 (some .int) 5 125 [.inr (.inr 0), .inl v1, .inl v2, .inl v3, .inl v4] σ r := g_entry (by decide) rfl (Nat.le_of_ble_eq_true rfl) ho hok hin (fun X C => w_Co_put C σ v1 v2 v3 v4)
theorem D_Co_hold_0 : decode prog_1_method_19_code 0 = .ok (.iload_n 1, 1) := by decide +kernel
theorem D_Co_hold_1 : decode prog_1_method_19_code 1 = .ok (.ifCond .eq 13, 3) := by decide +kernel
theorem D_Co_hold_4 : decode prog_1_method_19_code 4 = .ok (.aload_n 0, 1) := by decide +kernel
theorem D_Co_hold_5 : decode prog_1_method_19_code 5 = .ok (.getfield 52, 3) := by decide +kernel
theorem D_Co_hold_8 : decode prog_1_method_19_code 8 = .ok (.getfield 162, 3) := by decide +kernel
theorem D_Co_hold_11 : decode prog_1_method_19_code 11 = .ok (.goto 10, 3) := by decide +kernel
theorem D_Co_hold_14 : decode prog_1_method_19_code 14 = .ok (.aload_n 0, 1) := by decide +kernel
theorem D_Co_hold_15 : decode prog_1_method_19_code 15 = .ok (.getfield 52, 3) := by decide +kernel
theorem D_Co_hold_18 : decode prog_1_method_19_code 18 = .ok (.getfield 165, 3) := by decide +kernel
theorem D_Co_hold_21 : decode prog_1_method_19_code 21 = .ok (.astore 4, 2) := by decide +kernel
theorem D_Co_hold_23 : decode prog_1_method_19_code 23 = .ok (.iload_n 2, 1) := by decide +kernel
theorem D_Co_hold_24 : decode prog_1_method_19_code 24 = .ok (.aload 4, 2) := by decide +kernel
theorem D_Co_hold_26 : decode prog_1_method_19_code 26 = .ok (.arraylength, 1) := by decide +kernel
theorem D_Co_hold_27 : decode prog_1_method_19_code 27 = .ok (.iconst 1, 1) := by decide +kernel
theorem D_Co_hold_28 : decode prog_1_method_19_code 28 = .ok (.isub, 1) := by decide +kernel
theorem D_Co_hold_29 : decode prog_1_method_19_code 29 = .ok (.invokestatic 56, 3) := by decide +kernel
theorem D_Co_hold_32 : decode prog_1_method_19_code 32 = .ok (.ifCond .ne 6, 3) := by decide +kernel
theorem D_Co_hold_35 : decode prog_1_method_19_code 35 = .ok (.bipush (-100), 2) := by decide +kernel
theorem D_Co_hold_37 : decode prog_1_method_19_code 37 = .ok (.ireturn, 1) := by decide +kernel
theorem D_Co_hold_38 : decode prog_1_method_19_code 38 = .ok (.iload_n 3, 1) := by decide +kernel
theorem D_Co_hold_39 : decode prog_1_method_19_code 39 = .ok (.iconst (-1), 1) := by decide +kernel
theorem D_Co_hold_40 : decode prog_1_method_19_code 40 = .ok (.if_icmp .eq 17, 3) := by decide +kernel
theorem D_Co_hold_43 : decode prog_1_method_19_code 43 = .ok (.aload_n 0, 1) := by decide +kernel
theorem D_Co_hold_44 : decode prog_1_method_19_code 44 = .ok (.getfield 52, 3) := by decide +kernel
theorem D_Co_hold_47 : decode prog_1_method_19_code 47 = .ok (.iload_n 3, 1) := by decide +kernel
theorem D_Co_hold_48 : decode prog_1_method_19_code 48 = .ok (.invokevirtual 158, 3) := by decide +kernel
theorem D_Co_hold_51 : decode prog_1_method_19_code 51 = .ok (.ifCond .ne 6, 3) := by decide +kernel
theorem D_Co_hold_54 : decode prog_1_method_19_code 54 = .ok (.bipush (-100), 2) := by decide +kernel
theorem D_Co_hold_56 : decode prog_1_method_19_code 56 = .ok (.ireturn, 1) := by decide +kernel
theorem D_Co_hold_57 : decode prog_1_method_19_code 57 = .ok (.aload 4, 2) := by decide +kernel
theorem D_Co_hold_59 : decode prog_1_method_19_code 59 = .ok (.iload_n 2, 1) := by decide +kernel
theorem D_Co_hold_60 : decode prog_1_method_19_code 60 = .ok (.iaload, 1) := by decide +kernel
theorem D_Co_hold_61 : decode prog_1_method_19_code 61 = .ok (.istore 5, 2) := by decide +kernel
theorem D_Co_hold_63 : decode prog_1_method_19_code 63 = .ok (.aload 4, 2) := by decide +kernel
theorem D_Co_hold_65 : decode prog_1_method_19_code 65 = .ok (.iload_n 2, 1) := by decide +kernel
theorem D_Co_hold_66 : decode prog_1_method_19_code 66 = .ok (.iload_n 3, 1) := by decide +kernel
theorem D_Co_hold_67 : decode prog_1_method_19_code 67 = .ok (.iastore, 1) := by decide +kernel
theorem D_Co_hold_68 : decode prog_1_method_19_code 68 = .ok (.iload 5, 2) := by decide +kernel
theorem D_Co_hold_70 : decode prog_1_method_19_code 70 = .ok (.ireturn, 1) := by decide +kernel
def j_Co_hold_57_34 (σ : gM) (v2 v3 : Int) : gO :=
  gi v2 8 <|
  gv (σ 34 v2) fun a1 =>
  gw σ 34 8 v2 v3 fun s2 =>
  some (s2, a1)
set_option maxHeartbeats 4000000 in
theorem wj_Co_hold_57_34 {X : gX} (C : gC gctC prog_1_method_19_code kR6 6 1 21 (some .int) X) (σ : gM) (v2 v3 : Int) : GG gctC X 57 [(2, .inl v2), (3, .inl v3), (4, .inr (.inr 34))] [] σ (j_Co_hold_57_34 σ v2 v3) := by
  unfold j_Co_hold_57_34
  refine g_aload C D_Co_hold_57 2 rfl ?_
  refine g_iload_n C D_Co_hold_59 rfl 0 rfl ?_
  refine g_iald C rfl rfl rfl D_Co_hold_60 ?_
  refine g_let C (fun a1 => ?_)
  refine g_istore (L' := [(5, .inl a1), (2, .inl v2), (3, .inl v3), (4, .inr (.inr 34))]) C D_Co_hold_61 (by decide) rfl ?_
  refine g_aload C D_Co_hold_63 3 rfl ?_
  refine g_iload_n C D_Co_hold_65 rfl 1 rfl ?_
  refine g_iload_n C D_Co_hold_66 rfl 2 rfl ?_
  refine g_iast C rfl rfl D_Co_hold_67 (fun s2 => ?_)
  refine g_iload C D_Co_hold_68 0 rfl ?_
  exact g_iret C D_Co_hold_70
def j_Co_hold_21_34 (σ : gM) (v2 v3 : Int) : gO :=
  ga (8 - 1) fun a1 =>
  gk (F_Co_within σ v2 a1) fun s2 a3 =>
  if a3 = 0 then
  (some (s2, (-100)))
  else
  (if v3 = (-1) then
  (j_Co_hold_57_34 s2 v2 v3)
  else
  (gk (F_He_has s2 v3) fun s4 a5 =>
  if a5 = 0 then
  (some (s4, (-100)))
  else
  (j_Co_hold_57_34 s4 v2 v3)))
set_option maxHeartbeats 4000000 in
theorem wj_Co_hold_21_34 {X : gX} (C : gC gctC prog_1_method_19_code kR6 6 1 21 (some .int) X) (σ : gM) (v2 v3 : Int) : GG gctC X 21 [(0, .inr (.inr 0)), (2, .inl v2), (3, .inl v3)] [.inr (.inr 34)] σ (j_Co_hold_21_34 σ v2 v3) := by
  unfold j_Co_hold_21_34
  refine g_astore (L' := [(4, .inr (.inr 34)), (0, .inr (.inr 0)), (2, .inl v2), (3, .inl v3)]) C D_Co_hold_21 (by decide) rfl ?_
  refine g_iload_n C D_Co_hold_23 rfl 2 rfl ?_
  refine g_aload C D_Co_hold_24 0 rfl ?_
  refine g_alen (N := 8) C rfl (by decide) ⟨by decide, by decide⟩ D_Co_hold_26 ?_
  refine g_iconst C D_Co_hold_27 ⟨by decide, by decide⟩ ?_
  refine g_isub C D_Co_hold_28 (fun a1 => ?_)
  refine g_callSi C [.inl v2, .inl a1] [] (Or.inr rfl) rfl (fun _ h1 h2 h3 => c_Co_within h1 h2 h3) wc_6_56 (by decide) (Nat.le_of_ble_eq_true rfl) D_Co_hold_29 (fun s2 a3 => ?_)
  refine g_if_ne (tgt := 38) C D_Co_hold_32 (by decide) ?_ ?_
  · refine g_iload_n C D_Co_hold_38 rfl 3 rfl ?_
    refine g_iconst C D_Co_hold_39 ⟨by decide, by decide⟩ ?_
    refine g_icmp_eq (tgt := 57) C D_Co_hold_40 (by decide) ?_ ?_
    · refine g_sub [2, 3, 0] rfl ?_
      exact wj_Co_hold_57_34 C _ _ _
    · refine g_aload_n C D_Co_hold_43 rfl 1 rfl ?_
      refine g_getr (ci := 6) C 5 rfl kI6 rfl (by decide) rfl rfl wf_6_52 D_Co_hold_44 ?_
      refine g_iload_n C D_Co_hold_47 rfl 3 rfl ?_
      refine g_callVi (ci := 2) C [.inl v3] [] (Or.inr rfl) rfl (fun _ h1 h2 h3 => c_He_has h1 h2 h3) rfl rfl wc_6_158 (by decide) (Nat.le_of_ble_eq_true rfl) D_Co_hold_48 (fun s4 a5 => ?_)
      refine g_if_ne (tgt := 57) C D_Co_hold_51 (by decide) ?_ ?_
      · refine g_sub [2, 3, 0] rfl ?_
        exact wj_Co_hold_57_34 C _ _ _
      · refine g_bipush C D_Co_hold_54 (by decide) ⟨by decide, by decide⟩ ?_
        exact g_iret C D_Co_hold_56
  · refine g_bipush C D_Co_hold_35 (by decide) ⟨by decide, by decide⟩ ?_
    exact g_iret C D_Co_hold_37
def j_Co_hold_57_35 (σ : gM) (v2 v3 : Int) : gO :=
  gi v2 4 <|
  gv (σ 35 v2) fun a1 =>
  gw σ 35 4 v2 v3 fun s2 =>
  some (s2, a1)
set_option maxHeartbeats 4000000 in
theorem wj_Co_hold_57_35 {X : gX} (C : gC gctC prog_1_method_19_code kR6 6 1 21 (some .int) X) (σ : gM) (v2 v3 : Int) : GG gctC X 57 [(2, .inl v2), (3, .inl v3), (4, .inr (.inr 35))] [] σ (j_Co_hold_57_35 σ v2 v3) := by
  unfold j_Co_hold_57_35
  refine g_aload C D_Co_hold_57 2 rfl ?_
  refine g_iload_n C D_Co_hold_59 rfl 0 rfl ?_
  refine g_iald C rfl rfl rfl D_Co_hold_60 ?_
  refine g_let C (fun a1 => ?_)
  refine g_istore (L' := [(5, .inl a1), (2, .inl v2), (3, .inl v3), (4, .inr (.inr 35))]) C D_Co_hold_61 (by decide) rfl ?_
  refine g_aload C D_Co_hold_63 3 rfl ?_
  refine g_iload_n C D_Co_hold_65 rfl 1 rfl ?_
  refine g_iload_n C D_Co_hold_66 rfl 2 rfl ?_
  refine g_iast C rfl rfl D_Co_hold_67 (fun s2 => ?_)
  refine g_iload C D_Co_hold_68 0 rfl ?_
  exact g_iret C D_Co_hold_70
def j_Co_hold_21_35 (σ : gM) (v2 v3 : Int) : gO :=
  ga (4 - 1) fun a1 =>
  gk (F_Co_within σ v2 a1) fun s2 a3 =>
  if a3 = 0 then
  (some (s2, (-100)))
  else
  (if v3 = (-1) then
  (j_Co_hold_57_35 s2 v2 v3)
  else
  (gk (F_He_has s2 v3) fun s4 a5 =>
  if a5 = 0 then
  (some (s4, (-100)))
  else
  (j_Co_hold_57_35 s4 v2 v3)))
set_option maxHeartbeats 4000000 in
theorem wj_Co_hold_21_35 {X : gX} (C : gC gctC prog_1_method_19_code kR6 6 1 21 (some .int) X) (σ : gM) (v2 v3 : Int) : GG gctC X 21 [(0, .inr (.inr 0)), (2, .inl v2), (3, .inl v3)] [.inr (.inr 35)] σ (j_Co_hold_21_35 σ v2 v3) := by
  unfold j_Co_hold_21_35
  refine g_astore (L' := [(4, .inr (.inr 35)), (0, .inr (.inr 0)), (2, .inl v2), (3, .inl v3)]) C D_Co_hold_21 (by decide) rfl ?_
  refine g_iload_n C D_Co_hold_23 rfl 2 rfl ?_
  refine g_aload C D_Co_hold_24 0 rfl ?_
  refine g_alen (N := 4) C rfl (by decide) ⟨by decide, by decide⟩ D_Co_hold_26 ?_
  refine g_iconst C D_Co_hold_27 ⟨by decide, by decide⟩ ?_
  refine g_isub C D_Co_hold_28 (fun a1 => ?_)
  refine g_callSi C [.inl v2, .inl a1] [] (Or.inr rfl) rfl (fun _ h1 h2 h3 => c_Co_within h1 h2 h3) wc_6_56 (by decide) (Nat.le_of_ble_eq_true rfl) D_Co_hold_29 (fun s2 a3 => ?_)
  refine g_if_ne (tgt := 38) C D_Co_hold_32 (by decide) ?_ ?_
  · refine g_iload_n C D_Co_hold_38 rfl 3 rfl ?_
    refine g_iconst C D_Co_hold_39 ⟨by decide, by decide⟩ ?_
    refine g_icmp_eq (tgt := 57) C D_Co_hold_40 (by decide) ?_ ?_
    · refine g_sub [2, 3, 0] rfl ?_
      exact wj_Co_hold_57_35 C _ _ _
    · refine g_aload_n C D_Co_hold_43 rfl 1 rfl ?_
      refine g_getr (ci := 6) C 5 rfl kI6 rfl (by decide) rfl rfl wf_6_52 D_Co_hold_44 ?_
      refine g_iload_n C D_Co_hold_47 rfl 3 rfl ?_
      refine g_callVi (ci := 2) C [.inl v3] [] (Or.inr rfl) rfl (fun _ h1 h2 h3 => c_He_has h1 h2 h3) rfl rfl wc_6_158 (by decide) (Nat.le_of_ble_eq_true rfl) D_Co_hold_48 (fun s4 a5 => ?_)
      refine g_if_ne (tgt := 57) C D_Co_hold_51 (by decide) ?_ ?_
      · refine g_sub [2, 3, 0] rfl ?_
        exact wj_Co_hold_57_35 C _ _ _
      · refine g_bipush C D_Co_hold_54 (by decide) ⟨by decide, by decide⟩ ?_
        exact g_iret C D_Co_hold_56
  · refine g_bipush C D_Co_hold_35 (by decide) ⟨by decide, by decide⟩ ?_
    exact g_iret C D_Co_hold_37
def F_Co_hold (σ : gM) (v1 v2 v3 : Int) : gO :=
  if v1 = 0 then
  (j_Co_hold_21_34 σ v2 v3)
  else
  (j_Co_hold_21_35 σ v2 v3)
set_option maxHeartbeats 4000000 in
theorem w_Co_hold {X : gX} (C : gC gctC prog_1_method_19_code kR6 6 1 21 (some .int) X) (σ : gM) (v1 v2 v3 : Int) : GG gctC X 0 [(0, .inr (.inr 0)), (1, .inl v1), (2, .inl v2), (3, .inl v3)] [] σ (F_Co_hold σ v1 v2 v3) := by
  unfold F_Co_hold
  refine g_iload_n C D_Co_hold_0 rfl 1 rfl ?_
  refine g_if_eq (tgt := 14) C D_Co_hold_1 (by decide) ?_ ?_
  · refine g_aload_n C D_Co_hold_14 rfl 0 rfl ?_
    refine g_getr (ci := 6) C 5 rfl kI6 rfl (by decide) rfl rfl wf_6_52 D_Co_hold_15 ?_
    refine g_getr (ci := 2) C 5 rfl kI2 rfl (by decide) rfl rfl wf_6_165 D_Co_hold_18 ?_
    refine g_sub [0, 2, 3] rfl ?_
    exact wj_Co_hold_21_34 C _ _ _
  · refine g_aload_n C D_Co_hold_4 rfl 0 rfl ?_
    refine g_getr (ci := 6) C 5 rfl kI6 rfl (by decide) rfl rfl wf_6_52 D_Co_hold_5 ?_
    refine g_getr (ci := 2) C 6 rfl kI2 rfl (by decide) rfl rfl wf_6_162 D_Co_hold_8 ?_
    refine g_goto (tgt := 21) C D_Co_hold_11 (by decide) ?_
    refine g_sub [0, 2, 3] rfl ?_
    exact wj_Co_hold_21_35 C _ _ _
theorem c_Co_hold {σ : gM} {v1 v2 v3 : Int} {r : gR} (ho : F_Co_hold σ v1 v2 v3 = some r) (hok : gOk [.inr (.inr 0), .inl v1, .inl v2, .inl v3]) (hin : gIn gctC σ) : gCt gctC Y_Co_hold prog_1_method_19_code 6 (some .int) 1 21 [.inr (.inr 0), .inl v1, .inl v2, .inl v3] σ r := g_entry (by decide) rfl (Nat.le_of_ble_eq_true rfl) ho hok hin (fun X C => w_Co_hold C σ v1 v2 v3)
theorem D_Co_gather_0 : decode prog_1_method_20_code 0 = .ok (.iload_n 1, 1) := by decide +kernel
theorem D_Co_gather_1 : decode prog_1_method_20_code 1 = .ok (.iconst 2, 1) := by decide +kernel
theorem D_Co_gather_2 : decode prog_1_method_20_code 2 = .ok (.invokestatic 56, 3) := by decide +kernel
theorem D_Co_gather_5 : decode prog_1_method_20_code 5 = .ok (.ifCond .ne 5, 3) := by decide +kernel
theorem D_Co_gather_8 : decode prog_1_method_20_code 8 = .ok (.iconst (-1), 1) := by decide +kernel
theorem D_Co_gather_9 : decode prog_1_method_20_code 9 = .ok (.ireturn, 1) := by decide +kernel
theorem D_Co_gather_10 : decode prog_1_method_20_code 10 = .ok (.aload_n 0, 1) := by decide +kernel
theorem D_Co_gather_11 : decode prog_1_method_20_code 11 = .ok (.getfield 52, 3) := by decide +kernel
theorem D_Co_gather_14 : decode prog_1_method_20_code 14 = .ok (.iload_n 1, 1) := by decide +kernel
theorem D_Co_gather_15 : decode prog_1_method_20_code 15 = .ok (.invokevirtual 142, 3) := by decide +kernel
theorem D_Co_gather_18 : decode prog_1_method_20_code 18 = .ok (.ireturn, 1) := by decide +kernel
def F_Co_gather (σ : gM) (v1 : Int) : gO :=
  gk (F_Co_within σ v1 2) fun s1 a2 =>
  if a2 = 0 then
  (some (s1, (-1)))
  else
  (gk (F_He_collect s1 v1) fun s3 a4 =>
  some (s3, a4))
set_option maxHeartbeats 4000000 in
theorem w_Co_gather {X : gX} (C : gC gctC prog_1_method_20_code kR6 2 7 175 (some .int) X) (σ : gM) (v1 : Int) : GG gctC X 0 [(0, .inr (.inr 0)), (1, .inl v1)] [] σ (F_Co_gather σ v1) := by
  unfold F_Co_gather
  refine g_iload_n C D_Co_gather_0 rfl 1 rfl ?_
  refine g_iconst C D_Co_gather_1 ⟨by decide, by decide⟩ ?_
  refine g_callSi C [.inl v1, .inl 2] [] (Or.inr rfl) rfl (fun _ h1 h2 h3 => c_Co_within h1 h2 h3) wc_6_56 (by decide) (Nat.le_of_ble_eq_true rfl) D_Co_gather_2 (fun s1 a2 => ?_)
  refine g_if_ne (tgt := 10) C D_Co_gather_5 (by decide) ?_ ?_
  · refine g_aload_n C D_Co_gather_10 rfl 0 rfl ?_
    refine g_getr (ci := 6) C 5 rfl kI6 rfl (by decide) rfl rfl wf_6_52 D_Co_gather_11 ?_
    refine g_iload_n C D_Co_gather_14 rfl 1 rfl ?_
    refine g_callVi (ci := 2) C [.inl v1] [] (Or.inl rfl) rfl (fun _ h1 h2 h3 => c_He_collect h1 h2 h3) rfl rfl wc_6_142 (by decide) (Nat.le_of_ble_eq_true rfl) D_Co_gather_15 (fun s3 a4 => ?_)
    exact g_iret C D_Co_gather_18
  · refine g_iconst C D_Co_gather_8 ⟨by decide, by decide⟩ ?_
    exact g_iret C D_Co_gather_9
theorem c_Co_gather {σ : gM} {v1 : Int} {r : gR} (ho : F_Co_gather σ v1 = some r) (hok : gOk [.inr (.inr 0), .inl v1]) (hin : gIn gctC σ) : gCt gctC Y_Co_gather prog_1_method_20_code 2 (some .int) 7 175 [.inr (.inr 0), .inl v1] σ r := g_entry (by decide) rfl (Nat.le_of_ble_eq_true rfl) ho hok hin (fun X C => w_Co_gather C σ v1)
theorem D_Co_about_0 : decode prog_1_method_21_code 0 = .ok (.aload_n 0, 1) := by decide +kernel
theorem D_Co_about_1 : decode prog_1_method_21_code 1 = .ok (.getfield 52, 3) := by decide +kernel
theorem D_Co_about_4 : decode prog_1_method_21_code 4 = .ok (.iload_n 1, 1) := by decide +kernel
theorem D_Co_about_5 : decode prog_1_method_21_code 5 = .ok (.invokevirtual 158, 3) := by decide +kernel
theorem D_Co_about_8 : decode prog_1_method_21_code 8 = .ok (.ifCond .ne 5, 3) := by decide +kernel
theorem D_Co_about_11 : decode prog_1_method_21_code 11 = .ok (.iconst (-1), 1) := by decide +kernel
theorem D_Co_about_12 : decode prog_1_method_21_code 12 = .ok (.ireturn, 1) := by decide +kernel
theorem D_Co_about_13 : decode prog_1_method_21_code 13 = .ok (.iload_n 2, 1) := by decide +kernel
theorem D_Co_about_14 : decode prog_1_method_21_code 14 = .ok (.tableswitch 92 0 4 #[34, 44, 54, 64, 82], 34) := by decide +kernel
theorem D_Co_about_48 : decode prog_1_method_21_code 48 = .ok (.aload_n 0, 1) := by decide +kernel
theorem D_Co_about_49 : decode prog_1_method_21_code 49 = .ok (.getfield 52, 3) := by decide +kernel
theorem D_Co_about_52 : decode prog_1_method_21_code 52 = .ok (.getfield 152, 3) := by decide +kernel
theorem D_Co_about_55 : decode prog_1_method_21_code 55 = .ok (.iload_n 1, 1) := by decide +kernel
theorem D_Co_about_56 : decode prog_1_method_21_code 56 = .ok (.iaload, 1) := by decide +kernel
theorem D_Co_about_57 : decode prog_1_method_21_code 57 = .ok (.ireturn, 1) := by decide +kernel
theorem D_Co_about_58 : decode prog_1_method_21_code 58 = .ok (.aload_n 0, 1) := by decide +kernel
theorem D_Co_about_59 : decode prog_1_method_21_code 59 = .ok (.getfield 52, 3) := by decide +kernel
theorem D_Co_about_62 : decode prog_1_method_21_code 62 = .ok (.getfield 168, 3) := by decide +kernel
theorem D_Co_about_65 : decode prog_1_method_21_code 65 = .ok (.iload_n 1, 1) := by decide +kernel
theorem D_Co_about_66 : decode prog_1_method_21_code 66 = .ok (.iaload, 1) := by decide +kernel
theorem D_Co_about_67 : decode prog_1_method_21_code 67 = .ok (.ireturn, 1) := by decide +kernel
theorem D_Co_about_68 : decode prog_1_method_21_code 68 = .ok (.aload_n 0, 1) := by decide +kernel
theorem D_Co_about_69 : decode prog_1_method_21_code 69 = .ok (.getfield 52, 3) := by decide +kernel
theorem D_Co_about_72 : decode prog_1_method_21_code 72 = .ok (.getfield 171, 3) := by decide +kernel
theorem D_Co_about_75 : decode prog_1_method_21_code 75 = .ok (.iload_n 1, 1) := by decide +kernel
theorem D_Co_about_76 : decode prog_1_method_21_code 76 = .ok (.iaload, 1) := by decide +kernel
theorem D_Co_about_77 : decode prog_1_method_21_code 77 = .ok (.ireturn, 1) := by decide +kernel
theorem D_Co_about_78 : decode prog_1_method_21_code 78 = .ok (.aload_n 0, 1) := by decide +kernel
theorem D_Co_about_79 : decode prog_1_method_21_code 79 = .ok (.getfield 52, 3) := by decide +kernel
theorem D_Co_about_82 : decode prog_1_method_21_code 82 = .ok (.getfield 174, 3) := by decide +kernel
theorem D_Co_about_85 : decode prog_1_method_21_code 85 = .ok (.iload_n 1, 1) := by decide +kernel
theorem D_Co_about_86 : decode prog_1_method_21_code 86 = .ok (.baload, 1) := by decide +kernel
theorem D_Co_about_87 : decode prog_1_method_21_code 87 = .ok (.ifCond .eq 7, 3) := by decide +kernel
theorem D_Co_about_90 : decode prog_1_method_21_code 90 = .ok (.iconst 1, 1) := by decide +kernel
theorem D_Co_about_91 : decode prog_1_method_21_code 91 = .ok (.goto 4, 3) := by decide +kernel
theorem D_Co_about_94 : decode prog_1_method_21_code 94 = .ok (.iconst 0, 1) := by decide +kernel
theorem D_Co_about_95 : decode prog_1_method_21_code 95 = .ok (.ireturn, 1) := by decide +kernel
theorem D_Co_about_96 : decode prog_1_method_21_code 96 = .ok (.aload_n 0, 1) := by decide +kernel
theorem D_Co_about_97 : decode prog_1_method_21_code 97 = .ok (.getfield 52, 3) := by decide +kernel
theorem D_Co_about_100 : decode prog_1_method_21_code 100 = .ok (.getfield 155, 3) := by decide +kernel
theorem D_Co_about_103 : decode prog_1_method_21_code 103 = .ok (.iload_n 1, 1) := by decide +kernel
theorem D_Co_about_104 : decode prog_1_method_21_code 104 = .ok (.iaload, 1) := by decide +kernel
theorem D_Co_about_105 : decode prog_1_method_21_code 105 = .ok (.ireturn, 1) := by decide +kernel
theorem D_Co_about_106 : decode prog_1_method_21_code 106 = .ok (.iconst (-1), 1) := by decide +kernel
theorem D_Co_about_107 : decode prog_1_method_21_code 107 = .ok (.ireturn, 1) := by decide +kernel
def j_Co_about_95 (σ : gM) (t0 : Int) : gO :=
  some (σ, t0)
set_option maxHeartbeats 4000000 in
theorem wj_Co_about_95 {X : gX} (C : gC gctC prog_1_method_21_code kR6 3 1 21 (some .int) X) (σ : gM) (t0 : Int) : GG gctC X 95 [] [.inl t0] σ (j_Co_about_95 σ t0) := by
  unfold j_Co_about_95
  exact g_iret C D_Co_about_95
def F_Co_about (σ : gM) (v1 v2 : Int) : gO :=
  gk (F_He_has σ v1) fun s1 a2 =>
  if a2 = 0 then
  (some (s1, (-1)))
  else
  (if v2 = 0 then
  (gi v1 40 <|
  some (s1, (s1 29 v1)))
  else if v2 = 1 then
  (gi v1 40 <|
  some (s1, (s1 30 v1)))
  else if v2 = 2 then
  (gi v1 40 <|
  some (s1, (s1 31 v1)))
  else if v2 = 3 then
  (gi v1 40 <|
  if (s1 32 v1) = 0 then
  (j_Co_about_95 s1 0)
  else
  (j_Co_about_95 s1 1))
  else if v2 = 4 then
  (gi v1 40 <|
  some (s1, (s1 33 v1)))
  else (some (s1, (-1))))
set_option maxHeartbeats 4000000 in
theorem w_Co_about {X : gX} (C : gC gctC prog_1_method_21_code kR6 3 1 21 (some .int) X) (σ : gM) (v1 v2 : Int) : GG gctC X 0 [(0, .inr (.inr 0)), (1, .inl v1), (2, .inl v2)] [] σ (F_Co_about σ v1 v2) := by
  unfold F_Co_about
  refine g_aload_n C D_Co_about_0 rfl 0 rfl ?_
  refine g_getr (ci := 6) C 5 rfl kI6 rfl (by decide) rfl rfl wf_6_52 D_Co_about_1 ?_
  refine g_iload_n C D_Co_about_4 rfl 1 rfl ?_
  refine g_callVi (ci := 2) C [.inl v1] [] (Or.inr rfl) rfl (fun _ h1 h2 h3 => c_He_has h1 h2 h3) rfl rfl wc_6_158 (by decide) (Nat.le_of_ble_eq_true rfl) D_Co_about_5 (fun s1 a2 => ?_)
  refine g_if_ne (tgt := 13) C D_Co_about_8 (by decide) ?_ ?_
  · refine g_iload_n C D_Co_about_13 rfl 2 rfl ?_
    refine g_ite _ (fun h0 => ?_) (fun h0 => ?_)
    · refine g_tabIn (v := 0) (tgt := 48) C D_Co_about_14 h0 ⟨by decide, by decide⟩ (by decide) (by decide) rfl (by decide) ?_
      refine g_aload_n C D_Co_about_48 rfl 0 rfl ?_
      refine g_getr (ci := 6) C 5 rfl kI6 rfl (by decide) rfl rfl wf_6_52 D_Co_about_49 ?_
      refine g_getr (ci := 2) C 0 rfl kI2 rfl (by decide) rfl rfl wf_6_152 D_Co_about_52 ?_
      refine g_iload_n C D_Co_about_55 rfl 1 rfl ?_
      refine g_iald C rfl rfl rfl D_Co_about_56 ?_
      exact g_iret C D_Co_about_57
    refine g_ite _ (fun h1 => ?_) (fun h1 => ?_)
    · refine g_tabIn (v := 1) (tgt := 58) C D_Co_about_14 h1 ⟨by decide, by decide⟩ (by decide) (by decide) rfl (by decide) ?_
      refine g_aload_n C D_Co_about_58 rfl 0 rfl ?_
      refine g_getr (ci := 6) C 5 rfl kI6 rfl (by decide) rfl rfl wf_6_52 D_Co_about_59 ?_
      refine g_getr (ci := 2) C 1 rfl kI2 rfl (by decide) rfl rfl wf_6_168 D_Co_about_62 ?_
      refine g_iload_n C D_Co_about_65 rfl 1 rfl ?_
      refine g_iald C rfl rfl rfl D_Co_about_66 ?_
      exact g_iret C D_Co_about_67
    refine g_ite _ (fun h2 => ?_) (fun h2 => ?_)
    · refine g_tabIn (v := 2) (tgt := 68) C D_Co_about_14 h2 ⟨by decide, by decide⟩ (by decide) (by decide) rfl (by decide) ?_
      refine g_aload_n C D_Co_about_68 rfl 0 rfl ?_
      refine g_getr (ci := 6) C 5 rfl kI6 rfl (by decide) rfl rfl wf_6_52 D_Co_about_69 ?_
      refine g_getr (ci := 2) C 2 rfl kI2 rfl (by decide) rfl rfl wf_6_171 D_Co_about_72 ?_
      refine g_iload_n C D_Co_about_75 rfl 1 rfl ?_
      refine g_iald C rfl rfl rfl D_Co_about_76 ?_
      exact g_iret C D_Co_about_77
    refine g_ite _ (fun h3 => ?_) (fun h3 => ?_)
    · refine g_tabIn (v := 3) (tgt := 78) C D_Co_about_14 h3 ⟨by decide, by decide⟩ (by decide) (by decide) rfl (by decide) ?_
      refine g_aload_n C D_Co_about_78 rfl 0 rfl ?_
      refine g_getr (ci := 6) C 5 rfl kI6 rfl (by decide) rfl rfl wf_6_52 D_Co_about_79 ?_
      refine g_getr (ci := 2) C 3 rfl kI2 rfl (by decide) rfl rfl wf_6_174 D_Co_about_82 ?_
      refine g_iload_n C D_Co_about_85 rfl 1 rfl ?_
      refine g_zald C rfl rfl rfl D_Co_about_86 ?_
      refine g_if_eq (tgt := 94) C D_Co_about_87 (by decide) ?_ ?_
      · refine g_iconst C D_Co_about_94 ⟨by decide, by decide⟩ ?_
        refine g_sub [] rfl ?_
        exact wj_Co_about_95 C _ _
      · refine g_iconst C D_Co_about_90 ⟨by decide, by decide⟩ ?_
        refine g_goto (tgt := 95) C D_Co_about_91 (by decide) ?_
        refine g_sub [] rfl ?_
        exact wj_Co_about_95 C _ _
    refine g_ite _ (fun h4 => ?_) (fun h4 => ?_)
    · refine g_tabIn (v := 4) (tgt := 96) C D_Co_about_14 h4 ⟨by decide, by decide⟩ (by decide) (by decide) rfl (by decide) ?_
      refine g_aload_n C D_Co_about_96 rfl 0 rfl ?_
      refine g_getr (ci := 6) C 5 rfl kI6 rfl (by decide) rfl rfl wf_6_52 D_Co_about_97 ?_
      refine g_getr (ci := 2) C 4 rfl kI2 rfl (by decide) rfl rfl wf_6_155 D_Co_about_100 ?_
      refine g_iload_n C D_Co_about_103 rfl 1 rfl ?_
      refine g_iald C rfl rfl rfl D_Co_about_104 ?_
      exact g_iret C D_Co_about_105
    refine g_tabOut (tgt := 106) C D_Co_about_14 (by omega) (by decide) ?_
    refine g_iconst C D_Co_about_106 ⟨by decide, by decide⟩ ?_
    exact g_iret C D_Co_about_107
  · refine g_iconst C D_Co_about_11 ⟨by decide, by decide⟩ ?_
    exact g_iret C D_Co_about_12
theorem c_Co_about {σ : gM} {v1 v2 : Int} {r : gR} (ho : F_Co_about σ v1 v2 = some r) (hok : gOk [.inr (.inr 0), .inl v1, .inl v2]) (hin : gIn gctC σ) : gCt gctC Y_Co_about prog_1_method_21_code 3 (some .int) 1 21 [.inr (.inr 0), .inl v1, .inl v2] σ r := g_entry (by decide) rfl (Nat.le_of_ble_eq_true rfl) ho hok hin (fun X C => w_Co_about C σ v1 v2)
