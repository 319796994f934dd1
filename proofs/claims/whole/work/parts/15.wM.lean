/-! by program: functions of the methods and their walks: Mo_bring, Mo_ask, Mo_readByte, Mo_writeByte, Mo_forget, Mo_drive, Mo_lines, Mo_rule, Mo_line, Mo_goAway, Mo_whoGoes, Mo_freeFrame, Mo_noteRun, Mo_touch, Mo_frames, Mo_page -/
theorem D_Mo_bring_0 : decode prog_9_method_28_code 0 = .ok (.aload_n 0, 1) := by decide +kernel
theorem D_Mo_bring_1 : decode prog_9_method_28_code 1 = .ok (.iload_n 1, 1) := by decide +kernel
theorem D_Mo_bring_2 : decode prog_9_method_28_code 2 = .ok (.iload_n 2, 1) := by decide +kernel
theorem D_Mo_bring_3 : decode prog_9_method_28_code 3 = .ok (.invokevirtual 186, 3) := by decide +kernel
theorem D_Mo_bring_6 : decode prog_9_method_28_code 6 = .ok (.istore_n 3, 1) := by decide +kernel
theorem D_Mo_bring_7 : decode prog_9_method_28_code 7 = .ok (.aload_n 0, 1) := by decide +kernel
theorem D_Mo_bring_8 : decode prog_9_method_28_code 8 = .ok (.getfield 112, 3) := by decide +kernel
theorem D_Mo_bring_11 : decode prog_9_method_28_code 11 = .ok (.iconst 1, 1) := by decide +kernel
theorem D_Mo_bring_12 : decode prog_9_method_28_code 12 = .ok (.dup2, 1) := by decide +kernel
theorem D_Mo_bring_13 : decode prog_9_method_28_code 13 = .ok (.iaload, 1) := by decide +kernel
theorem D_Mo_bring_14 : decode prog_9_method_28_code 14 = .ok (.iconst 1, 1) := by decide +kernel
theorem D_Mo_bring_15 : decode prog_9_method_28_code 15 = .ok (.iadd, 1) := by decide +kernel
theorem D_Mo_bring_16 : decode prog_9_method_28_code 16 = .ok (.iastore, 1) := by decide +kernel
theorem D_Mo_bring_17 : decode prog_9_method_28_code 17 = .ok (.aload_n 0, 1) := by decide +kernel
theorem D_Mo_bring_18 : decode prog_9_method_28_code 18 = .ok (.getfield 112, 3) := by decide +kernel
theorem D_Mo_bring_21 : decode prog_9_method_28_code 21 = .ok (.iload_n 3, 1) := by decide +kernel
theorem D_Mo_bring_22 : decode prog_9_method_28_code 22 = .ok (.dup2, 1) := by decide +kernel
theorem D_Mo_bring_23 : decode prog_9_method_28_code 23 = .ok (.iaload, 1) := by decide +kernel
theorem D_Mo_bring_24 : decode prog_9_method_28_code 24 = .ok (.iconst 1, 1) := by decide +kernel
theorem D_Mo_bring_25 : decode prog_9_method_28_code 25 = .ok (.iadd, 1) := by decide +kernel
theorem D_Mo_bring_26 : decode prog_9_method_28_code 26 = .ok (.iastore, 1) := by decide +kernel
theorem D_Mo_bring_27 : decode prog_9_method_28_code 27 = .ok (.aload_n 0, 1) := by decide +kernel
theorem D_Mo_bring_28 : decode prog_9_method_28_code 28 = .ok (.iconst 1, 1) := by decide +kernel
theorem D_Mo_bring_29 : decode prog_9_method_28_code 29 = .ok (.iload_n 1, 1) := by decide +kernel
theorem D_Mo_bring_30 : decode prog_9_method_28_code 30 = .ok (.isub, 1) := by decide +kernel
theorem D_Mo_bring_31 : decode prog_9_method_28_code 31 = .ok (.iload_n 2, 1) := by decide +kernel
theorem D_Mo_bring_32 : decode prog_9_method_28_code 32 = .ok (.invokevirtual 190, 3) := by decide +kernel
theorem D_Mo_bring_35 : decode prog_9_method_28_code 35 = .ok (.istore 4, 2) := by decide +kernel
theorem D_Mo_bring_37 : decode prog_9_method_28_code 37 = .ok (.iload 4, 2) := by decide +kernel
theorem D_Mo_bring_39 : decode prog_9_method_28_code 39 = .ok (.bipush (-4), 2) := by decide +kernel
theorem D_Mo_bring_41 : decode prog_9_method_28_code 41 = .ok (.if_icmp .eq 20, 3) := by decide +kernel
theorem D_Mo_bring_44 : decode prog_9_method_28_code 44 = .ok (.aload_n 0, 1) := by decide +kernel
theorem D_Mo_bring_45 : decode prog_9_method_28_code 45 = .ok (.getfield 32, 3) := by decide +kernel
theorem D_Mo_bring_48 : decode prog_9_method_28_code 48 = .ok (.iload 4, 2) := by decide +kernel
theorem D_Mo_bring_50 : decode prog_9_method_28_code 50 = .ok (.baload, 1) := by decide +kernel
theorem D_Mo_bring_51 : decode prog_9_method_28_code 51 = .ok (.ifCond .eq 10, 3) := by decide +kernel
theorem D_Mo_bring_54 : decode prog_9_method_28_code 54 = .ok (.aload_n 0, 1) := by decide +kernel
theorem D_Mo_bring_55 : decode prog_9_method_28_code 55 = .ok (.iload 4, 2) := by decide +kernel
theorem D_Mo_bring_57 : decode prog_9_method_28_code 57 = .ok (.iload_n 3, 1) := by decide +kernel
theorem D_Mo_bring_58 : decode prog_9_method_28_code 58 = .ok (.invokevirtual 183, 3) := by decide +kernel
theorem D_Mo_bring_61 : decode prog_9_method_28_code 61 = .ok (.aload_n 0, 1) := by decide +kernel
theorem D_Mo_bring_62 : decode prog_9_method_28_code 62 = .ok (.iload_n 1, 1) := by decide +kernel
theorem D_Mo_bring_63 : decode prog_9_method_28_code 63 = .ok (.iload_n 2, 1) := by decide +kernel
theorem D_Mo_bring_64 : decode prog_9_method_28_code 64 = .ok (.iload_n 3, 1) := by decide +kernel
theorem D_Mo_bring_65 : decode prog_9_method_28_code 65 = .ok (.invokevirtual 193, 3) := by decide +kernel
theorem D_Mo_bring_68 : decode prog_9_method_28_code 68 = .ok (.istore 5, 2) := by decide +kernel
theorem D_Mo_bring_70 : decode prog_9_method_28_code 70 = .ok (.aload_n 0, 1) := by decide +kernel
theorem D_Mo_bring_71 : decode prog_9_method_28_code 71 = .ok (.iload_n 2, 1) := by decide +kernel
theorem D_Mo_bring_72 : decode prog_9_method_28_code 72 = .ok (.invokevirtual 167, 3) := by decide +kernel
theorem D_Mo_bring_75 : decode prog_9_method_28_code 75 = .ok (.aload_n 0, 1) := by decide +kernel
theorem D_Mo_bring_76 : decode prog_9_method_28_code 76 = .ok (.iload_n 3, 1) := by decide +kernel
theorem D_Mo_bring_77 : decode prog_9_method_28_code 77 = .ok (.iconst 2, 1) := by decide +kernel
theorem D_Mo_bring_78 : decode prog_9_method_28_code 78 = .ok (.invokevirtual 157, 3) := by decide +kernel
theorem D_Mo_bring_81 : decode prog_9_method_28_code 81 = .ok (.aload_n 0, 1) := by decide +kernel
theorem D_Mo_bring_82 : decode prog_9_method_28_code 82 = .ok (.getfield 29, 3) := by decide +kernel
theorem D_Mo_bring_85 : decode prog_9_method_28_code 85 = .ok (.iload 5, 2) := by decide +kernel
theorem D_Mo_bring_87 : decode prog_9_method_28_code 87 = .ok (.iload_n 2, 1) := by decide +kernel
theorem D_Mo_bring_88 : decode prog_9_method_28_code 88 = .ok (.iastore, 1) := by decide +kernel
theorem D_Mo_bring_89 : decode prog_9_method_28_code 89 = .ok (.aload_n 0, 1) := by decide +kernel
theorem D_Mo_bring_90 : decode prog_9_method_28_code 90 = .ok (.getfield 32, 3) := by decide +kernel
theorem D_Mo_bring_93 : decode prog_9_method_28_code 93 = .ok (.iload 5, 2) := by decide +kernel
theorem D_Mo_bring_95 : decode prog_9_method_28_code 95 = .ok (.iconst 0, 1) := by decide +kernel
theorem D_Mo_bring_96 : decode prog_9_method_28_code 96 = .ok (.bastore, 1) := by decide +kernel
theorem D_Mo_bring_97 : decode prog_9_method_28_code 97 = .ok (.aload_n 0, 1) := by decide +kernel
theorem D_Mo_bring_98 : decode prog_9_method_28_code 98 = .ok (.getfield 45, 3) := by decide +kernel
theorem D_Mo_bring_101 : decode prog_9_method_28_code 101 = .ok (.iload 5, 2) := by decide +kernel
theorem D_Mo_bring_103 : decode prog_9_method_28_code 103 = .ok (.iconst 0, 1) := by decide +kernel
theorem D_Mo_bring_104 : decode prog_9_method_28_code 104 = .ok (.iastore, 1) := by decide +kernel
theorem D_Mo_bring_105 : decode prog_9_method_28_code 105 = .ok (.aload_n 0, 1) := by decide +kernel
theorem D_Mo_bring_106 : decode prog_9_method_28_code 106 = .ok (.getfield 39, 3) := by decide +kernel
theorem D_Mo_bring_109 : decode prog_9_method_28_code 109 = .ok (.iload 5, 2) := by decide +kernel
theorem D_Mo_bring_111 : decode prog_9_method_28_code 111 = .ok (.aload_n 0, 1) := by decide +kernel
theorem D_Mo_bring_112 : decode prog_9_method_28_code 112 = .ok (.getfield 177, 3) := by decide +kernel
theorem D_Mo_bring_115 : decode prog_9_method_28_code 115 = .ok (.iastore, 1) := by decide +kernel
theorem D_Mo_bring_116 : decode prog_9_method_28_code 116 = .ok (.iconst 0, 1) := by decide +kernel
theorem D_Mo_bring_117 : decode prog_9_method_28_code 117 = .ok (.istore 6, 2) := by decide +kernel
theorem D_Mo_bring_119 : decode prog_9_method_28_code 119 = .ok (.iload 6, 2) := by decide +kernel
theorem D_Mo_bring_121 : decode prog_9_method_28_code 121 = .ok (.bipush 8, 2) := by decide +kernel
theorem D_Mo_bring_123 : decode prog_9_method_28_code 123 = .ok (.if_icmp .ge 73, 3) := by decide +kernel
theorem D_Mo_bring_126 : decode prog_9_method_28_code 126 = .ok (.aload_n 0, 1) := by decide +kernel
theorem D_Mo_bring_127 : decode prog_9_method_28_code 127 = .ok (.bipush 8, 2) := by decide +kernel
theorem D_Mo_bring_129 : decode prog_9_method_28_code 129 = .ok (.iload_n 2, 1) := by decide +kernel
theorem D_Mo_bring_130 : decode prog_9_method_28_code 130 = .ok (.imul, 1) := by decide +kernel
theorem D_Mo_bring_131 : decode prog_9_method_28_code 131 = .ok (.iload 6, 2) := by decide +kernel
theorem D_Mo_bring_133 : decode prog_9_method_28_code 133 = .ok (.iadd, 1) := by decide +kernel
theorem D_Mo_bring_134 : decode prog_9_method_28_code 134 = .ok (.invokevirtual 197, 3) := by decide +kernel
theorem D_Mo_bring_137 : decode prog_9_method_28_code 137 = .ok (.istore 7, 2) := by decide +kernel
theorem D_Mo_bring_139 : decode prog_9_method_28_code 139 = .ok (.aload_n 0, 1) := by decide +kernel
theorem D_Mo_bring_140 : decode prog_9_method_28_code 140 = .ok (.getfield 45, 3) := by decide +kernel
theorem D_Mo_bring_143 : decode prog_9_method_28_code 143 = .ok (.iload 5, 2) := by decide +kernel
theorem D_Mo_bring_145 : decode prog_9_method_28_code 145 = .ok (.dup2, 1) := by decide +kernel
theorem D_Mo_bring_146 : decode prog_9_method_28_code 146 = .ok (.iaload, 1) := by decide +kernel
theorem D_Mo_bring_147 : decode prog_9_method_28_code 147 = .ok (.iload 7, 2) := by decide +kernel
theorem D_Mo_bring_149 : decode prog_9_method_28_code 149 = .ok (.bipush (-5), 2) := by decide +kernel
theorem D_Mo_bring_151 : decode prog_9_method_28_code 151 = .ok (.if_icmp .ne 10, 3) := by decide +kernel
theorem D_Mo_bring_154 : decode prog_9_method_28_code 154 = .ok (.iconst 1, 1) := by decide +kernel
theorem D_Mo_bring_155 : decode prog_9_method_28_code 155 = .ok (.iload 6, 2) := by decide +kernel
theorem D_Mo_bring_157 : decode prog_9_method_28_code 157 = .ok (.ishl, 1) := by decide +kernel
theorem D_Mo_bring_158 : decode prog_9_method_28_code 158 = .ok (.goto 4, 3) := by decide +kernel
theorem D_Mo_bring_161 : decode prog_9_method_28_code 161 = .ok (.iconst 0, 1) := by decide +kernel
theorem D_Mo_bring_162 : decode prog_9_method_28_code 162 = .ok (.ior, 1) := by decide +kernel
theorem D_Mo_bring_163 : decode prog_9_method_28_code 163 = .ok (.iastore, 1) := by decide +kernel
theorem D_Mo_bring_164 : decode prog_9_method_28_code 164 = .ok (.aload_n 0, 1) := by decide +kernel
theorem D_Mo_bring_165 : decode prog_9_method_28_code 165 = .ok (.getfield 42, 3) := by decide +kernel
theorem D_Mo_bring_168 : decode prog_9_method_28_code 168 = .ok (.bipush 8, 2) := by decide +kernel
theorem D_Mo_bring_170 : decode prog_9_method_28_code 170 = .ok (.iload 5, 2) := by decide +kernel
theorem D_Mo_bring_172 : decode prog_9_method_28_code 172 = .ok (.imul, 1) := by decide +kernel
theorem D_Mo_bring_173 : decode prog_9_method_28_code 173 = .ok (.iload 6, 2) := by decide +kernel
theorem D_Mo_bring_175 : decode prog_9_method_28_code 175 = .ok (.iadd, 1) := by decide +kernel
theorem D_Mo_bring_176 : decode prog_9_method_28_code 176 = .ok (.iload 7, 2) := by decide +kernel
theorem D_Mo_bring_178 : decode prog_9_method_28_code 178 = .ok (.bipush (-5), 2) := by decide +kernel
theorem D_Mo_bring_180 : decode prog_9_method_28_code 180 = .ok (.if_icmp .ne 7, 3) := by decide +kernel
theorem D_Mo_bring_183 : decode prog_9_method_28_code 183 = .ok (.iconst 0, 1) := by decide +kernel
theorem D_Mo_bring_184 : decode prog_9_method_28_code 184 = .ok (.goto 5, 3) := by decide +kernel
theorem D_Mo_bring_187 : decode prog_9_method_28_code 187 = .ok (.iload 7, 2) := by decide +kernel
theorem D_Mo_bring_189 : decode prog_9_method_28_code 189 = .ok (.iastore, 1) := by decide +kernel
theorem D_Mo_bring_190 : decode prog_9_method_28_code 190 = .ok (.iinc 6 1, 3) := by decide +kernel
theorem D_Mo_bring_193 : decode prog_9_method_28_code 193 = .ok (.goto (-74), 3) := by decide +kernel
theorem D_Mo_bring_196 : decode prog_9_method_28_code 196 = .ok (.iload 5, 2) := by decide +kernel
theorem D_Mo_bring_198 : decode prog_9_method_28_code 198 = .ok (.ireturn, 1) := by decide +kernel
def j_Mo_bring_189_8 (rec : gM → Int → gO) (σ : gM) (p2 p5 v6 t0 t1 : Int) : gO :=
  gw σ 8 256 t1 t0 fun s1 =>
  ga (v6 + 1) fun a2 =>
  rec s1 a2
set_option maxHeartbeats 4000000 in
theorem wj_Mo_bring_189_8 {X : gX} (C : gC gctM prog_9_method_28_code kR7 8 5 117 (some .int) X) {p2 p5 : Int} {rec : gM → Int → gO} (hrec : ∀ (σ : gM) (a0 : Int), GG gctM X 119 [(0, .inr (.inr 0)), (2, .inl p2), (5, .inl p5), (6, .inl a0)] [] σ (rec σ a0)) (σ : gM) (v6 t0 t1 : Int) : GG gctM X 189 [(0, .inr (.inr 0)), (2, .inl p2), (5, .inl p5), (6, .inl v6)] [.inl t0, .inl t1, .inr (.inr 8)] σ (j_Mo_bring_189_8 rec σ p2 p5 v6 t0 t1) := by
  unfold j_Mo_bring_189_8
  refine g_iast C rfl rfl D_Mo_bring_189 (fun s1 => ?_)
  refine g_iinc (t := 3) (L' := fun z => [(6, .inl z), (0, .inr (.inr 0)), (2, .inl p2), (5, .inl p5)]) C D_Mo_bring_190 rfl (by decide) (fun _ => rfl) (fun a2 => ?_)
  refine g_goto (tgt := 119) C D_Mo_bring_193 (by decide) ?_
  refine g_sub [1, 2, 3, 0] rfl ?_
  exact hrec _ _
def j_Mo_bring_162_9 (rec : gM → Int → gO) (σ : gM) (p2 p5 v6 v7 t0 t1 t2 : Int) : gO :=
  gw σ 9 32 t2 (gOr t1 t0) fun s1 =>
  ga (8 * p5) fun a2 =>
  ga (a2 + v6) fun a3 =>
  if v7 = (-5) then
  (j_Mo_bring_189_8 rec s1 p2 p5 v6 0 a3)
  else
  (j_Mo_bring_189_8 rec s1 p2 p5 v6 v7 a3)
set_option maxHeartbeats 4000000 in
theorem wj_Mo_bring_162_9 {X : gX} (C : gC gctM prog_9_method_28_code kR7 8 5 117 (some .int) X) {p2 p5 : Int} {rec : gM → Int → gO} (hrec : ∀ (σ : gM) (a0 : Int), GG gctM X 119 [(0, .inr (.inr 0)), (2, .inl p2), (5, .inl p5), (6, .inl a0)] [] σ (rec σ a0)) (σ : gM) (v6 v7 t0 t1 t2 : Int) : GG gctM X 162 [(0, .inr (.inr 0)), (2, .inl p2), (5, .inl p5), (6, .inl v6), (7, .inl v7)] [.inl t0, .inl t1, .inl t2, .inr (.inr 9)] σ (j_Mo_bring_162_9 rec σ p2 p5 v6 v7 t0 t1 t2) := by
  unfold j_Mo_bring_162_9
  refine g_ior C D_Mo_bring_162 ?_
  refine g_iast C rfl rfl D_Mo_bring_163 (fun s1 => ?_)
  refine g_aload_n C D_Mo_bring_164 rfl 0 rfl ?_
  refine g_getr (ci := 7) C 13 rfl kI7 rfl (by decide) rfl rfl wf_7_42 D_Mo_bring_165 ?_
  refine g_bipush C D_Mo_bring_168 (by decide) ⟨by decide, by decide⟩ ?_
  refine g_iload C D_Mo_bring_170 2 rfl ?_
  refine g_imul C D_Mo_bring_172 (fun a2 => ?_)
  refine g_iload C D_Mo_bring_173 3 rfl ?_
  refine g_iadd C D_Mo_bring_175 (fun a3 => ?_)
  refine g_iload C D_Mo_bring_176 4 rfl ?_
  refine g_bipush C D_Mo_bring_178 (by decide) ⟨by decide, by decide⟩ ?_
  refine g_icmp_ne (tgt := 187) C D_Mo_bring_180 (by decide) ?_ ?_
  · refine g_iload C D_Mo_bring_187 4 rfl ?_
    refine g_sub [0, 1, 2, 3] rfl ?_
    exact wj_Mo_bring_189_8 C hrec _ _ _ _
  · refine g_iconst C D_Mo_bring_183 ⟨by decide, by decide⟩ ?_
    refine g_goto (tgt := 189) C D_Mo_bring_184 (by decide) ?_
    refine g_sub [0, 1, 2, 3] rfl ?_
    exact wj_Mo_bring_189_8 C hrec _ _ _ _
def l_Mo_bring_119 (p2 p5 : Int) (rec : gM → Int → gO) (σ : gM) (v6 : Int) : gO :=
  if v6 < 8 then
  (ga (8 * p2) fun a1 =>
  ga (a1 + v6) fun a2 =>
  gk (F_Mo_readCell σ a2) fun s3 a4 =>
  gi p5 32 <|
  if a4 = (-5) then
  (j_Mo_bring_162_9 rec s3 p2 p5 v6 a4 (gShl 1 v6) (s3 9 p5) p5)
  else
  (j_Mo_bring_162_9 rec s3 p2 p5 v6 a4 0 (s3 9 p5) p5))
  else
  (some (σ, p5))
set_option maxHeartbeats 4000000 in
theorem wl_Mo_bring_119 {X : gX} (C : gC gctM prog_9_method_28_code kR7 8 5 117 (some .int) X) {p2 p5 : Int} : ∀ (n : Nat) (σ : gM) (a0 : Int), GG gctM X 119 [(0, .inr (.inr 0)), (2, .inl p2), (5, .inl p5), (6, .inl a0)] [] σ (gl1 (l_Mo_bring_119 p2 p5) n σ a0) := by
  refine gl1_run (P := fun σ a0 o => GG gctM X 119 [(0, .inr (.inr 0)), (2, .inl p2), (5, .inl p5), (6, .inl a0)] [] σ o) (fun _ _ => g_none) (fun rec hrec σ v6 => ?_)
  unfold l_Mo_bring_119
  refine g_iload C D_Mo_bring_119 3 rfl ?_
  refine g_bipush C D_Mo_bring_121 (by decide) ⟨by decide, by decide⟩ ?_
  refine g_icmp_ge (tgt := 196) C D_Mo_bring_123 (by decide) ?_ ?_
  · refine g_iload C D_Mo_bring_196 2 rfl ?_
    exact g_iret C D_Mo_bring_198
  · refine g_aload_n C D_Mo_bring_126 rfl 0 rfl ?_
    refine g_bipush C D_Mo_bring_127 (by decide) ⟨by decide, by decide⟩ ?_
    refine g_iload_n C D_Mo_bring_129 rfl 1 rfl ?_
    refine g_imul C D_Mo_bring_130 (fun a1 => ?_)
    refine g_iload C D_Mo_bring_131 3 rfl ?_
    refine g_iadd C D_Mo_bring_133 (fun a2 => ?_)
    refine g_callVi (ci := 7) C [.inl a2] [] (Or.inl rfl) rfl (fun _ h1 h2 h3 => c_Mo_readCell h1 h2 h3) rfl rfl wc_7_197 (by decide) (Nat.le_of_ble_eq_true rfl) D_Mo_bring_134 (fun s3 a4 => ?_)
    refine g_istore (L' := [(7, .inl a4), (0, .inr (.inr 0)), (2, .inl p2), (5, .inl p5), (6, .inl v6)]) C D_Mo_bring_137 (by decide) rfl ?_
    refine g_aload_n C D_Mo_bring_139 rfl 1 rfl ?_
    refine g_getr (ci := 7) C 14 rfl kI7 rfl (by decide) rfl rfl wf_7_45 D_Mo_bring_140 ?_
    refine g_iload C D_Mo_bring_143 3 rfl ?_
    refine g_dup2 C D_Mo_bring_145 rfl rfl ?_
    refine g_iald C rfl rfl rfl D_Mo_bring_146 ?_
    refine g_iload C D_Mo_bring_147 0 rfl ?_
    refine g_bipush C D_Mo_bring_149 (by decide) ⟨by decide, by decide⟩ ?_
    refine g_icmp_ne (tgt := 161) C D_Mo_bring_151 (by decide) ?_ ?_
    · refine g_iconst C D_Mo_bring_161 ⟨by decide, by decide⟩ ?_
      refine g_sub [1, 2, 3, 4, 0] rfl ?_
      exact wj_Mo_bring_162_9 C hrec _ _ _ _ _ _
    · refine g_iconst C D_Mo_bring_154 ⟨by decide, by decide⟩ ?_
      refine g_iload C D_Mo_bring_155 4 rfl ?_
      refine g_ishl C D_Mo_bring_157 ?_
      refine g_goto (tgt := 162) C D_Mo_bring_158 (by decide) ?_
      refine g_sub [1, 2, 3, 4, 0] rfl ?_
      exact wj_Mo_bring_162_9 C hrec _ _ _ _ _ _
def j_Mo_bring_61 (σ : gM) (v1 v2 v3 : Int) : gO :=
  gk (F_Mo_roomFor σ v1 v2 v3) fun s1 a2 =>
  gk (F_Mo_openFor s1 v2) fun s3 _ =>
  gk (F_Mo_tick s3 v3 2) fun s4 _ =>
  gw s4 4 32 a2 v2 fun s5 =>
  gwb s5 5 32 a2 0 fun s6 =>
  gw s6 9 32 a2 0 fun s7 =>
  gw s7 7 32 a2 (s7 0 18) fun s8 =>
  gl1 (l_Mo_bring_119 v2 a2) 200 s8 0
set_option maxHeartbeats 4000000 in
theorem wj_Mo_bring_61 {X : gX} (C : gC gctM prog_9_method_28_code kR7 8 5 117 (some .int) X) (σ : gM) (v1 v2 v3 : Int) : GG gctM X 61 [(0, .inr (.inr 0)), (1, .inl v1), (2, .inl v2), (3, .inl v3)] [] σ (j_Mo_bring_61 σ v1 v2 v3) := by
  unfold j_Mo_bring_61
  refine g_aload_n C D_Mo_bring_61 rfl 0 rfl ?_
  refine g_iload_n C D_Mo_bring_62 rfl 1 rfl ?_
  refine g_iload_n C D_Mo_bring_63 rfl 2 rfl ?_
  refine g_iload_n C D_Mo_bring_64 rfl 3 rfl ?_
  refine g_callVi (ci := 7) C [.inl v1, .inl v2, .inl v3] [] (Or.inl rfl) rfl (fun _ h1 h2 h3 => c_Mo_roomFor h1 h2 h3) rfl rfl wc_7_193 (by decide) (Nat.le_of_ble_eq_true rfl) D_Mo_bring_65 (fun s1 a2 => ?_)
  refine g_istore (L' := [(5, .inl a2), (0, .inr (.inr 0)), (1, .inl v1), (2, .inl v2), (3, .inl v3)]) C D_Mo_bring_68 (by decide) rfl ?_
  refine g_aload_n C D_Mo_bring_70 rfl 1 rfl ?_
  refine g_iload_n C D_Mo_bring_71 rfl 3 rfl ?_
  refine g_callVv (ci := 7) C [.inl v2] [] rfl rfl (fun _ h1 h2 h3 => c_Mo_openFor h1 h2 h3) rfl rfl wc_7_167 (by decide) (Nat.le_of_ble_eq_true rfl) D_Mo_bring_72 (fun s3 _ => ?_)
  refine g_aload_n C D_Mo_bring_75 rfl 1 rfl ?_
  refine g_iload_n C D_Mo_bring_76 rfl 4 rfl ?_
  refine g_iconst C D_Mo_bring_77 ⟨by decide, by decide⟩ ?_
  refine g_callVv (ci := 7) C [.inl v3, .inl 2] [] rfl rfl (fun _ h1 h2 h3 => c_Mo_tick h1 h2 h3) rfl rfl wc_7_157 (by decide) (Nat.le_of_ble_eq_true rfl) D_Mo_bring_78 (fun s4 _ => ?_)
  refine g_aload_n C D_Mo_bring_81 rfl 1 rfl ?_
  refine g_getr (ci := 7) C 9 rfl kI7 rfl (by decide) rfl rfl wf_7_29 D_Mo_bring_82 ?_
  refine g_iload C D_Mo_bring_85 0 rfl ?_
  refine g_iload_n C D_Mo_bring_87 rfl 3 rfl ?_
  refine g_iast C rfl rfl D_Mo_bring_88 (fun s5 => ?_)
  refine g_aload_n C D_Mo_bring_89 rfl 1 rfl ?_
  refine g_getr (ci := 7) C 10 rfl kI7 rfl (by decide) rfl rfl wf_7_32 D_Mo_bring_90 ?_
  refine g_iload C D_Mo_bring_93 0 rfl ?_
  refine g_iconst C D_Mo_bring_95 ⟨by decide, by decide⟩ ?_
  refine g_zast C rfl rfl D_Mo_bring_96 (fun s6 => ?_)
  refine g_aload_n C D_Mo_bring_97 rfl 1 rfl ?_
  refine g_getr (ci := 7) C 14 rfl kI7 rfl (by decide) rfl rfl wf_7_45 D_Mo_bring_98 ?_
  refine g_iload C D_Mo_bring_101 0 rfl ?_
  refine g_iconst C D_Mo_bring_103 ⟨by decide, by decide⟩ ?_
  refine g_iast C rfl rfl D_Mo_bring_104 (fun s7 => ?_)
  refine g_aload_n C D_Mo_bring_105 rfl 1 rfl ?_
  refine g_getr (ci := 7) C 12 rfl kI7 rfl (by decide) rfl rfl wf_7_39 D_Mo_bring_106 ?_
  refine g_iload C D_Mo_bring_109 0 rfl ?_
  refine g_aload_n C D_Mo_bring_111 rfl 1 rfl ?_
  refine g_get (ci := 7) C 18 (jz := 18) rfl rfl kI7 rfl (by decide) rfl rfl wf_7_177 rfl D_Mo_bring_112 ?_
  refine g_iast C rfl rfl D_Mo_bring_115 (fun s8 => ?_)
  refine g_iconst C D_Mo_bring_116 ⟨by decide, by decide⟩ ?_
  refine g_istore (L' := [(6, .inl 0), (5, .inl a2), (0, .inr (.inr 0)), (1, .inl v1), (2, .inl v2), (3, .inl v3)]) C D_Mo_bring_117 (by decide) rfl ?_
  refine g_sub [2, 4, 1, 0] rfl ?_
  exact wl_Mo_bring_119 C 200 _ _
def F_Mo_bring (σ : gM) (v1 v2 : Int) : gO :=
  gk (F_Mo_causeOf σ v1 v2) fun s1 a2 =>
  gi 1 16 <|
  ga ((s1 30 1) + 1) fun a3 =>
  gw s1 30 16 1 a3 fun s4 =>
  gi a2 16 <|
  ga ((s4 30 a2) + 1) fun a5 =>
  gw s4 30 16 a2 a5 fun s6 =>
  ga (1 - v1) fun a7 =>
  gk (F_Mo_find s6 a7 v2) fun s8 a9 =>
  if a9 = (-4) then
  (j_Mo_bring_61 s8 v1 v2 a2)
  else
  (gi a9 32 <|
  if (s8 5 a9) = 0 then
  (j_Mo_bring_61 s8 v1 v2 a2)
  else
  (gk (F_Mo_store s8 a9 a2) fun s10 _ =>
  j_Mo_bring_61 s10 v1 v2 a2))
set_option maxHeartbeats 4000000 in
theorem w_Mo_bring {X : gX} (C : gC gctM prog_9_method_28_code kR7 8 5 117 (some .int) X) (σ : gM) (v1 v2 : Int) : GG gctM X 0 [(0, .inr (.inr 0)), (1, .inl v1), (2, .inl v2)] [] σ (F_Mo_bring σ v1 v2) := by
  unfold F_Mo_bring
  refine g_aload_n C D_Mo_bring_0 rfl 0 rfl ?_
  refine g_iload_n C D_Mo_bring_1 rfl 1 rfl ?_
  refine g_iload_n C D_Mo_bring_2 rfl 2 rfl ?_
  refine g_callVi (ci := 7) C [.inl v1, .inl v2] [] (Or.inl rfl) rfl (fun _ h1 h2 h3 => c_Mo_causeOf h1 h2 h3) rfl rfl wc_7_186 (by decide) (Nat.le_of_ble_eq_true rfl) D_Mo_bring_3 (fun s1 a2 => ?_)
  refine g_istore_n (L' := [(3, .inl a2), (0, .inr (.inr 0)), (1, .inl v1), (2, .inl v2)]) C D_Mo_bring_6 rfl (by decide) rfl ?_
  refine g_aload_n C D_Mo_bring_7 rfl 1 rfl ?_
  refine g_getr (ci := 7) C 42 rfl kI7 rfl (by decide) rfl rfl wf_7_112 D_Mo_bring_8 ?_
  refine g_iconst C D_Mo_bring_11 ⟨by decide, by decide⟩ ?_
  refine g_dup2 C D_Mo_bring_12 rfl rfl ?_
  refine g_iald C rfl rfl rfl D_Mo_bring_13 ?_
  refine g_iconst C D_Mo_bring_14 ⟨by decide, by decide⟩ ?_
  refine g_iadd C D_Mo_bring_15 (fun a3 => ?_)
  refine g_iast C rfl rfl D_Mo_bring_16 (fun s4 => ?_)
  refine g_aload_n C D_Mo_bring_17 rfl 1 rfl ?_
  refine g_getr (ci := 7) C 42 rfl kI7 rfl (by decide) rfl rfl wf_7_112 D_Mo_bring_18 ?_
  refine g_iload_n C D_Mo_bring_21 rfl 0 rfl ?_
  refine g_dup2 C D_Mo_bring_22 rfl rfl ?_
  refine g_iald C rfl rfl rfl D_Mo_bring_23 ?_
  refine g_iconst C D_Mo_bring_24 ⟨by decide, by decide⟩ ?_
  refine g_iadd C D_Mo_bring_25 (fun a5 => ?_)
  refine g_iast C rfl rfl D_Mo_bring_26 (fun s6 => ?_)
  refine g_aload_n C D_Mo_bring_27 rfl 1 rfl ?_
  refine g_iconst C D_Mo_bring_28 ⟨by decide, by decide⟩ ?_
  refine g_iload_n C D_Mo_bring_29 rfl 2 rfl ?_
  refine g_isub C D_Mo_bring_30 (fun a7 => ?_)
  refine g_iload_n C D_Mo_bring_31 rfl 3 rfl ?_
  refine g_callVi (ci := 7) C [.inl a7, .inl v2] [] (Or.inl rfl) rfl (fun _ h1 h2 h3 => c_Mo_find h1 h2 h3) rfl rfl wc_7_190 (by decide) (Nat.le_of_ble_eq_true rfl) D_Mo_bring_32 (fun s8 a9 => ?_)
  refine g_istore (L' := [(4, .inl a9), (3, .inl a2), (0, .inr (.inr 0)), (1, .inl v1), (2, .inl v2)]) C D_Mo_bring_35 (by decide) rfl ?_
  refine g_iload C D_Mo_bring_37 0 rfl ?_
  refine g_bipush C D_Mo_bring_39 (by decide) ⟨by decide, by decide⟩ ?_
  refine g_icmp_eq (tgt := 61) C D_Mo_bring_41 (by decide) ?_ ?_
  · refine g_sub [2, 3, 4, 1] rfl ?_
    exact wj_Mo_bring_61 C _ _ _ _
  · refine g_aload_n C D_Mo_bring_44 rfl 2 rfl ?_
    refine g_getr (ci := 7) C 10 rfl kI7 rfl (by decide) rfl rfl wf_7_32 D_Mo_bring_45 ?_
    refine g_iload C D_Mo_bring_48 0 rfl ?_
    refine g_zald C rfl rfl rfl D_Mo_bring_50 ?_
    refine g_if_eq (tgt := 61) C D_Mo_bring_51 (by decide) ?_ ?_
    · refine g_sub [2, 3, 4, 1] rfl ?_
      exact wj_Mo_bring_61 C _ _ _ _
    · refine g_aload_n C D_Mo_bring_54 rfl 2 rfl ?_
      refine g_iload C D_Mo_bring_55 0 rfl ?_
      refine g_iload_n C D_Mo_bring_57 rfl 1 rfl ?_
      refine g_callVv (ci := 7) C [.inl a9, .inl a2] [] rfl rfl (fun _ h1 h2 h3 => c_Mo_store h1 h2 h3) rfl rfl wc_7_183 (by decide) (Nat.le_of_ble_eq_true rfl) D_Mo_bring_58 (fun s10 _ => ?_)
      refine g_sub [2, 3, 4, 1] rfl ?_
      exact wj_Mo_bring_61 C _ _ _ _
theorem c_Mo_bring {σ : gM} {v1 v2 : Int} {r : gR} (ho : F_Mo_bring σ v1 v2 = some r) (hok : gOk [.inr (.inr 0), .inl v1, .inl v2]) (hin : gIn gctM σ) : gCt gctM Y_Mo_bring prog_9_method_28_code 8 (some .int) 5 117 [.inr (.inr 0), .inl v1, .inl v2] σ r := g_entry (by decide) rfl (Nat.le_of_ble_eq_true rfl) ho hok hin (fun X C => w_Mo_bring C σ v1 v2)
theorem D_Mo_ask_0 : decode prog_9_method_29_code 0 = .ok (.iload_n 2, 1) := by decide +kernel
theorem D_Mo_ask_1 : decode prog_9_method_29_code 1 = .ok (.bipush 8, 2) := by decide +kernel
theorem D_Mo_ask_3 : decode prog_9_method_29_code 3 = .ok (.idiv, 1) := by decide +kernel
theorem D_Mo_ask_4 : decode prog_9_method_29_code 4 = .ok (.istore_n 3, 1) := by decide +kernel
theorem D_Mo_ask_5 : decode prog_9_method_29_code 5 = .ok (.aload_n 0, 1) := by decide +kernel
theorem D_Mo_ask_6 : decode prog_9_method_29_code 6 = .ok (.dup, 1) := by decide +kernel
theorem D_Mo_ask_7 : decode prog_9_method_29_code 7 = .ok (.getfield 177, 3) := by decide +kernel
theorem D_Mo_ask_10 : decode prog_9_method_29_code 10 = .ok (.iconst 1, 1) := by decide +kernel
theorem D_Mo_ask_11 : decode prog_9_method_29_code 11 = .ok (.iadd, 1) := by decide +kernel
theorem D_Mo_ask_12 : decode prog_9_method_29_code 12 = .ok (.putfield 177, 3) := by decide +kernel
theorem D_Mo_ask_15 : decode prog_9_method_29_code 15 = .ok (.aload_n 0, 1) := by decide +kernel
theorem D_Mo_ask_16 : decode prog_9_method_29_code 16 = .ok (.getfield 112, 3) := by decide +kernel
theorem D_Mo_ask_19 : decode prog_9_method_29_code 19 = .ok (.iconst 0, 1) := by decide +kernel
theorem D_Mo_ask_20 : decode prog_9_method_29_code 20 = .ok (.dup2, 1) := by decide +kernel
theorem D_Mo_ask_21 : decode prog_9_method_29_code 21 = .ok (.iaload, 1) := by decide +kernel
theorem D_Mo_ask_22 : decode prog_9_method_29_code 22 = .ok (.iconst 1, 1) := by decide +kernel
theorem D_Mo_ask_23 : decode prog_9_method_29_code 23 = .ok (.iadd, 1) := by decide +kernel
theorem D_Mo_ask_24 : decode prog_9_method_29_code 24 = .ok (.iastore, 1) := by decide +kernel
theorem D_Mo_ask_25 : decode prog_9_method_29_code 25 = .ok (.aload_n 0, 1) := by decide +kernel
theorem D_Mo_ask_26 : decode prog_9_method_29_code 26 = .ok (.iload_n 1, 1) := by decide +kernel
theorem D_Mo_ask_27 : decode prog_9_method_29_code 27 = .ok (.iload_n 3, 1) := by decide +kernel
theorem D_Mo_ask_28 : decode prog_9_method_29_code 28 = .ok (.invokevirtual 190, 3) := by decide +kernel
theorem D_Mo_ask_31 : decode prog_9_method_29_code 31 = .ok (.istore 4, 2) := by decide +kernel
theorem D_Mo_ask_33 : decode prog_9_method_29_code 33 = .ok (.iload 4, 2) := by decide +kernel
theorem D_Mo_ask_35 : decode prog_9_method_29_code 35 = .ok (.bipush (-4), 2) := by decide +kernel
theorem D_Mo_ask_37 : decode prog_9_method_29_code 37 = .ok (.if_icmp .ne 11, 3) := by decide +kernel
theorem D_Mo_ask_40 : decode prog_9_method_29_code 40 = .ok (.aload_n 0, 1) := by decide +kernel
theorem D_Mo_ask_41 : decode prog_9_method_29_code 41 = .ok (.iload_n 1, 1) := by decide +kernel
theorem D_Mo_ask_42 : decode prog_9_method_29_code 42 = .ok (.iload_n 3, 1) := by decide +kernel
theorem D_Mo_ask_43 : decode prog_9_method_29_code 43 = .ok (.invokevirtual 200, 3) := by decide +kernel
theorem D_Mo_ask_46 : decode prog_9_method_29_code 46 = .ok (.istore 4, 2) := by decide +kernel
theorem D_Mo_ask_48 : decode prog_9_method_29_code 48 = .ok (.aload_n 0, 1) := by decide +kernel
theorem D_Mo_ask_49 : decode prog_9_method_29_code 49 = .ok (.iconst 0, 1) := by decide +kernel
theorem D_Mo_ask_50 : decode prog_9_method_29_code 50 = .ok (.iconst 1, 1) := by decide +kernel
theorem D_Mo_ask_51 : decode prog_9_method_29_code 51 = .ok (.invokevirtual 157, 3) := by decide +kernel
theorem D_Mo_ask_54 : decode prog_9_method_29_code 54 = .ok (.aload_n 0, 1) := by decide +kernel
theorem D_Mo_ask_55 : decode prog_9_method_29_code 55 = .ok (.getfield 36, 3) := by decide +kernel
theorem D_Mo_ask_58 : decode prog_9_method_29_code 58 = .ok (.iload 4, 2) := by decide +kernel
theorem D_Mo_ask_60 : decode prog_9_method_29_code 60 = .ok (.aload_n 0, 1) := by decide +kernel
theorem D_Mo_ask_61 : decode prog_9_method_29_code 61 = .ok (.getfield 177, 3) := by decide +kernel
theorem D_Mo_ask_64 : decode prog_9_method_29_code 64 = .ok (.iastore, 1) := by decide +kernel
theorem D_Mo_ask_65 : decode prog_9_method_29_code 65 = .ok (.aload_n 0, 1) := by decide +kernel
theorem D_Mo_ask_66 : decode prog_9_method_29_code 66 = .ok (.getfield 48, 3) := by decide +kernel
theorem D_Mo_ask_69 : decode prog_9_method_29_code 69 = .ok (.bipush 64, 2) := by decide +kernel
theorem D_Mo_ask_71 : decode prog_9_method_29_code 71 = .ok (.iload_n 1, 1) := by decide +kernel
theorem D_Mo_ask_72 : decode prog_9_method_29_code 72 = .ok (.imul, 1) := by decide +kernel
theorem D_Mo_ask_73 : decode prog_9_method_29_code 73 = .ok (.iload_n 3, 1) := by decide +kernel
theorem D_Mo_ask_74 : decode prog_9_method_29_code 74 = .ok (.iadd, 1) := by decide +kernel
theorem D_Mo_ask_75 : decode prog_9_method_29_code 75 = .ok (.iconst 1, 1) := by decide +kernel
theorem D_Mo_ask_76 : decode prog_9_method_29_code 76 = .ok (.bastore, 1) := by decide +kernel
theorem D_Mo_ask_77 : decode prog_9_method_29_code 77 = .ok (.aload_n 0, 1) := by decide +kernel
theorem D_Mo_ask_78 : decode prog_9_method_29_code 78 = .ok (.getfield 51, 3) := by decide +kernel
theorem D_Mo_ask_81 : decode prog_9_method_29_code 81 = .ok (.bipush 64, 2) := by decide +kernel
theorem D_Mo_ask_83 : decode prog_9_method_29_code 83 = .ok (.iload_n 1, 1) := by decide +kernel
theorem D_Mo_ask_84 : decode prog_9_method_29_code 84 = .ok (.imul, 1) := by decide +kernel
theorem D_Mo_ask_85 : decode prog_9_method_29_code 85 = .ok (.iload_n 3, 1) := by decide +kernel
theorem D_Mo_ask_86 : decode prog_9_method_29_code 86 = .ok (.iadd, 1) := by decide +kernel
theorem D_Mo_ask_87 : decode prog_9_method_29_code 87 = .ok (.iconst 0, 1) := by decide +kernel
theorem D_Mo_ask_88 : decode prog_9_method_29_code 88 = .ok (.bastore, 1) := by decide +kernel
theorem D_Mo_ask_89 : decode prog_9_method_29_code 89 = .ok (.aload_n 0, 1) := by decide +kernel
theorem D_Mo_ask_90 : decode prog_9_method_29_code 90 = .ok (.iload_n 1, 1) := by decide +kernel
theorem D_Mo_ask_91 : decode prog_9_method_29_code 91 = .ok (.iload_n 3, 1) := by decide +kernel
theorem D_Mo_ask_92 : decode prog_9_method_29_code 92 = .ok (.invokevirtual 203, 3) := by decide +kernel
theorem D_Mo_ask_95 : decode prog_9_method_29_code 95 = .ok (.iload 4, 2) := by decide +kernel
theorem D_Mo_ask_97 : decode prog_9_method_29_code 97 = .ok (.ireturn, 1) := by decide +kernel
def j_Mo_ask_48 (σ : gM) (v1 v3 v4 : Int) : gO :=
  gk (F_Mo_tick σ 0 1) fun s1 _ =>
  gw s1 6 32 v4 (s1 0 18) fun s2 =>
  ga (64 * v1) fun a3 =>
  ga (a3 + v3) fun a4 =>
  gwb s2 10 128 a4 1 fun s5 =>
  ga (64 * v1) fun a6 =>
  ga (a6 + v3) fun a7 =>
  gwb s5 11 128 a7 0 fun s8 =>
  gk (F_Mo_playBeside s8 v1 v3) fun s9 _ =>
  some (s9, v4)
set_option maxHeartbeats 4000000 in
theorem wj_Mo_ask_48 {X : gX} (C : gC gctM prog_9_method_29_code kR7 5 6 144 (some .int) X) (σ : gM) (v1 v3 v4 : Int) : GG gctM X 48 [(0, .inr (.inr 0)), (1, .inl v1), (3, .inl v3), (4, .inl v4)] [] σ (j_Mo_ask_48 σ v1 v3 v4) := by
  unfold j_Mo_ask_48
  refine g_aload_n C D_Mo_ask_48 rfl 0 rfl ?_
  refine g_iconst C D_Mo_ask_49 ⟨by decide, by decide⟩ ?_
  refine g_iconst C D_Mo_ask_50 ⟨by decide, by decide⟩ ?_
  refine g_callVv (ci := 7) C [.inl 0, .inl 1] [] rfl rfl (fun _ h1 h2 h3 => c_Mo_tick h1 h2 h3) rfl rfl wc_7_157 (by decide) (Nat.le_of_ble_eq_true rfl) D_Mo_ask_51 (fun s1 _ => ?_)
  refine g_aload_n C D_Mo_ask_54 rfl 0 rfl ?_
  refine g_getr (ci := 7) C 11 rfl kI7 rfl (by decide) rfl rfl wf_7_36 D_Mo_ask_55 ?_
  refine g_iload C D_Mo_ask_58 3 rfl ?_
  refine g_aload_n C D_Mo_ask_60 rfl 0 rfl ?_
  refine g_get (ci := 7) C 18 (jz := 18) rfl rfl kI7 rfl (by decide) rfl rfl wf_7_177 rfl D_Mo_ask_61 ?_
  refine g_iast C rfl rfl D_Mo_ask_64 (fun s2 => ?_)
  refine g_aload_n C D_Mo_ask_65 rfl 0 rfl ?_
  refine g_getr (ci := 7) C 15 rfl kI7 rfl (by decide) rfl rfl wf_7_48 D_Mo_ask_66 ?_
  refine g_bipush C D_Mo_ask_69 (by decide) ⟨by decide, by decide⟩ ?_
  refine g_iload_n C D_Mo_ask_71 rfl 1 rfl ?_
  refine g_imul C D_Mo_ask_72 (fun a3 => ?_)
  refine g_iload_n C D_Mo_ask_73 rfl 2 rfl ?_
  refine g_iadd C D_Mo_ask_74 (fun a4 => ?_)
  refine g_iconst C D_Mo_ask_75 ⟨by decide, by decide⟩ ?_
  refine g_zast C rfl rfl D_Mo_ask_76 (fun s5 => ?_)
  refine g_aload_n C D_Mo_ask_77 rfl 0 rfl ?_
  refine g_getr (ci := 7) C 16 rfl kI7 rfl (by decide) rfl rfl wf_7_51 D_Mo_ask_78 ?_
  refine g_bipush C D_Mo_ask_81 (by decide) ⟨by decide, by decide⟩ ?_
  refine g_iload_n C D_Mo_ask_83 rfl 1 rfl ?_
  refine g_imul C D_Mo_ask_84 (fun a6 => ?_)
  refine g_iload_n C D_Mo_ask_85 rfl 2 rfl ?_
  refine g_iadd C D_Mo_ask_86 (fun a7 => ?_)
  refine g_iconst C D_Mo_ask_87 ⟨by decide, by decide⟩ ?_
  refine g_zast C rfl rfl D_Mo_ask_88 (fun s8 => ?_)
  refine g_aload_n C D_Mo_ask_89 rfl 0 rfl ?_
  refine g_iload_n C D_Mo_ask_90 rfl 1 rfl ?_
  refine g_iload_n C D_Mo_ask_91 rfl 2 rfl ?_
  refine g_callVv (ci := 7) C [.inl v1, .inl v3] [] rfl rfl (fun _ h1 h2 h3 => c_Mo_playBeside h1 h2 h3) rfl rfl wc_7_203 (by decide) (Nat.le_of_ble_eq_true rfl) D_Mo_ask_92 (fun s9 _ => ?_)
  refine g_iload C D_Mo_ask_95 3 rfl ?_
  exact g_iret C D_Mo_ask_97
def F_Mo_ask (σ : gM) (v1 v2 : Int) : gO :=
  gd v2 8 <|
  gv (v2 / 8) fun a1 =>
  ga ((σ 0 18) + 1) fun a2 =>
  gp σ 0 18 a2 fun s3 =>
  gi 0 16 <|
  ga ((s3 30 0) + 1) fun a4 =>
  gw s3 30 16 0 a4 fun s5 =>
  gk (F_Mo_find s5 v1 a1) fun s6 a7 =>
  if a7 = (-4) then
  (gk (F_Mo_bring s6 v1 a1) fun s8 a9 =>
  j_Mo_ask_48 s8 v1 a1 a9)
  else
  (j_Mo_ask_48 s6 v1 a1 a7)
set_option maxHeartbeats 4000000 in
theorem w_Mo_ask {X : gX} (C : gC gctM prog_9_method_29_code kR7 5 6 144 (some .int) X) (σ : gM) (v1 v2 : Int) : GG gctM X 0 [(0, .inr (.inr 0)), (1, .inl v1), (2, .inl v2)] [] σ (F_Mo_ask σ v1 v2) := by
  unfold F_Mo_ask
  refine g_iload_n C D_Mo_ask_0 rfl 2 rfl ?_
  refine g_bipush C D_Mo_ask_1 (by decide) ⟨by decide, by decide⟩ ?_
  refine g_idiv C D_Mo_ask_3 ?_
  refine g_let C (fun a1 => ?_)
  refine g_istore_n (L' := [(3, .inl a1), (0, .inr (.inr 0)), (1, .inl v1), (2, .inl v2)]) C D_Mo_ask_4 rfl (by decide) rfl ?_
  refine g_aload_n C D_Mo_ask_5 rfl 1 rfl ?_
  refine g_dup C D_Mo_ask_6 rfl ?_
  refine g_get (ci := 7) C 18 (jz := 18) rfl rfl kI7 rfl (by decide) rfl rfl wf_7_177 rfl D_Mo_ask_7 ?_
  refine g_iconst C D_Mo_ask_10 ⟨by decide, by decide⟩ ?_
  refine g_iadd C D_Mo_ask_11 (fun a2 => ?_)
  refine g_putI (ci := 7) C 18 (jz := 18) rfl rfl kI7 kO7 kN7 rfl (by decide) rfl rfl wf_7_177 D_Mo_ask_12 (fun s3 => ?_)
  refine g_aload_n C D_Mo_ask_15 rfl 1 rfl ?_
  refine g_getr (ci := 7) C 42 rfl kI7 rfl (by decide) rfl rfl wf_7_112 D_Mo_ask_16 ?_
  refine g_iconst C D_Mo_ask_19 ⟨by decide, by decide⟩ ?_
  refine g_dup2 C D_Mo_ask_20 rfl rfl ?_
  refine g_iald C rfl rfl rfl D_Mo_ask_21 ?_
  refine g_iconst C D_Mo_ask_22 ⟨by decide, by decide⟩ ?_
  refine g_iadd C D_Mo_ask_23 (fun a4 => ?_)
  refine g_iast C rfl rfl D_Mo_ask_24 (fun s5 => ?_)
  refine g_aload_n C D_Mo_ask_25 rfl 1 rfl ?_
  refine g_iload_n C D_Mo_ask_26 rfl 2 rfl ?_
  refine g_iload_n C D_Mo_ask_27 rfl 0 rfl ?_
  refine g_callVi (ci := 7) C [.inl v1, .inl a1] [] (Or.inl rfl) rfl (fun _ h1 h2 h3 => c_Mo_find h1 h2 h3) rfl rfl wc_7_190 (by decide) (Nat.le_of_ble_eq_true rfl) D_Mo_ask_28 (fun s6 a7 => ?_)
  refine g_istore (L' := [(4, .inl a7), (3, .inl a1), (0, .inr (.inr 0)), (1, .inl v1), (2, .inl v2)]) C D_Mo_ask_31 (by decide) rfl ?_
  refine g_iload C D_Mo_ask_33 0 rfl ?_
  refine g_bipush C D_Mo_ask_35 (by decide) ⟨by decide, by decide⟩ ?_
  refine g_icmp_ne (tgt := 48) C D_Mo_ask_37 (by decide) ?_ ?_
  · refine g_sub [2, 3, 1, 0] rfl ?_
    exact wj_Mo_ask_48 C _ _ _ _
  · refine g_aload_n C D_Mo_ask_40 rfl 2 rfl ?_
    refine g_iload_n C D_Mo_ask_41 rfl 3 rfl ?_
    refine g_iload_n C D_Mo_ask_42 rfl 1 rfl ?_
    refine g_callVi (ci := 7) C [.inl v1, .inl a1] [] (Or.inl rfl) rfl (fun _ h1 h2 h3 => c_Mo_bring h1 h2 h3) rfl rfl wc_7_200 (by decide) (Nat.le_of_ble_eq_true rfl) D_Mo_ask_43 (fun s8 a9 => ?_)
    refine g_istore (L' := [(4, .inl a9), (3, .inl a1), (0, .inr (.inr 0)), (1, .inl v1), (2, .inl v2)]) C D_Mo_ask_46 (by decide) rfl ?_
    refine g_sub [2, 3, 1, 0] rfl ?_
    exact wj_Mo_ask_48 C _ _ _ _
theorem c_Mo_ask {σ : gM} {v1 v2 : Int} {r : gR} (ho : F_Mo_ask σ v1 v2 = some r) (hok : gOk [.inr (.inr 0), .inl v1, .inl v2]) (hin : gIn gctM σ) : gCt gctM Y_Mo_ask prog_9_method_29_code 5 (some .int) 6 144 [.inr (.inr 0), .inl v1, .inl v2] σ r := g_entry (by decide) rfl (Nat.le_of_ble_eq_true rfl) ho hok hin (fun X C => w_Mo_ask C σ v1 v2)
theorem D_Mo_readByte_0 : decode prog_9_method_30_code 0 = .ok (.aload_n 0, 1) := by decide +kernel
theorem D_Mo_readByte_1 : decode prog_9_method_30_code 1 = .ok (.iload_n 1, 1) := by decide +kernel
theorem D_Mo_readByte_2 : decode prog_9_method_30_code 2 = .ok (.iload_n 2, 1) := by decide +kernel
theorem D_Mo_readByte_3 : decode prog_9_method_30_code 3 = .ok (.invokevirtual 206, 3) := by decide +kernel
theorem D_Mo_readByte_6 : decode prog_9_method_30_code 6 = .ok (.istore_n 3, 1) := by decide +kernel
theorem D_Mo_readByte_7 : decode prog_9_method_30_code 7 = .ok (.aload_n 0, 1) := by decide +kernel
theorem D_Mo_readByte_8 : decode prog_9_method_30_code 8 = .ok (.getfield 45, 3) := by decide +kernel
theorem D_Mo_readByte_11 : decode prog_9_method_30_code 11 = .ok (.iload_n 3, 1) := by decide +kernel
theorem D_Mo_readByte_12 : decode prog_9_method_30_code 12 = .ok (.iaload, 1) := by decide +kernel
theorem D_Mo_readByte_13 : decode prog_9_method_30_code 13 = .ok (.iload_n 2, 1) := by decide +kernel
theorem D_Mo_readByte_14 : decode prog_9_method_30_code 14 = .ok (.bipush 8, 2) := by decide +kernel
theorem D_Mo_readByte_16 : decode prog_9_method_30_code 16 = .ok (.irem, 1) := by decide +kernel
theorem D_Mo_readByte_17 : decode prog_9_method_30_code 17 = .ok (.ishr, 1) := by decide +kernel
theorem D_Mo_readByte_18 : decode prog_9_method_30_code 18 = .ok (.iconst 1, 1) := by decide +kernel
theorem D_Mo_readByte_19 : decode prog_9_method_30_code 19 = .ok (.iand, 1) := by decide +kernel
theorem D_Mo_readByte_20 : decode prog_9_method_30_code 20 = .ok (.iconst 1, 1) := by decide +kernel
theorem D_Mo_readByte_21 : decode prog_9_method_30_code 21 = .ok (.if_icmp .ne 8, 3) := by decide +kernel
theorem D_Mo_readByte_24 : decode prog_9_method_30_code 24 = .ok (.bipush (-5), 2) := by decide +kernel
theorem D_Mo_readByte_26 : decode prog_9_method_30_code 26 = .ok (.goto 17, 3) := by decide +kernel
theorem D_Mo_readByte_29 : decode prog_9_method_30_code 29 = .ok (.aload_n 0, 1) := by decide +kernel
theorem D_Mo_readByte_30 : decode prog_9_method_30_code 30 = .ok (.getfield 42, 3) := by decide +kernel
theorem D_Mo_readByte_33 : decode prog_9_method_30_code 33 = .ok (.bipush 8, 2) := by decide +kernel
theorem D_Mo_readByte_35 : decode prog_9_method_30_code 35 = .ok (.iload_n 3, 1) := by decide +kernel
theorem D_Mo_readByte_36 : decode prog_9_method_30_code 36 = .ok (.imul, 1) := by decide +kernel
theorem D_Mo_readByte_37 : decode prog_9_method_30_code 37 = .ok (.iload_n 2, 1) := by decide +kernel
theorem D_Mo_readByte_38 : decode prog_9_method_30_code 38 = .ok (.bipush 8, 2) := by decide +kernel
theorem D_Mo_readByte_40 : decode prog_9_method_30_code 40 = .ok (.irem, 1) := by decide +kernel
theorem D_Mo_readByte_41 : decode prog_9_method_30_code 41 = .ok (.iadd, 1) := by decide +kernel
theorem D_Mo_readByte_42 : decode prog_9_method_30_code 42 = .ok (.iaload, 1) := by decide +kernel
theorem D_Mo_readByte_43 : decode prog_9_method_30_code 43 = .ok (.ireturn, 1) := by decide +kernel
def j_Mo_readByte_43 (σ : gM) (t0 : Int) : gO :=
  some (σ, t0)
set_option maxHeartbeats 4000000 in
theorem wj_Mo_readByte_43 {X : gX} (C : gC gctM prog_9_method_30_code kR7 4 7 168 (some .int) X) (σ : gM) (t0 : Int) : GG gctM X 43 [] [.inl t0] σ (j_Mo_readByte_43 σ t0) := by
  unfold j_Mo_readByte_43
  exact g_iret C D_Mo_readByte_43
def F_Mo_readByte (σ : gM) (v1 v2 : Int) : gO :=
  gk (F_Mo_ask σ v1 v2) fun s1 a2 =>
  gi a2 32 <|
  gd v2 8 <|
  if (gAnd (gShr (s1 9 a2) (v2 % 8)) 1) = 1 then
  (j_Mo_readByte_43 s1 (-5))
  else
  (ga (8 * a2) fun a3 =>
  gd v2 8 <|
  ga (a3 + (v2 % 8)) fun a4 =>
  gi a4 256 <|
  j_Mo_readByte_43 s1 (s1 8 a4))
set_option maxHeartbeats 4000000 in
theorem w_Mo_readByte {X : gX} (C : gC gctM prog_9_method_30_code kR7 4 7 168 (some .int) X) (σ : gM) (v1 v2 : Int) : GG gctM X 0 [(0, .inr (.inr 0)), (1, .inl v1), (2, .inl v2)] [] σ (F_Mo_readByte σ v1 v2) := by
  unfold F_Mo_readByte
  refine g_aload_n C D_Mo_readByte_0 rfl 0 rfl ?_
  refine g_iload_n C D_Mo_readByte_1 rfl 1 rfl ?_
  refine g_iload_n C D_Mo_readByte_2 rfl 2 rfl ?_
  refine g_callVi (ci := 7) C [.inl v1, .inl v2] [] (Or.inl rfl) rfl (fun _ h1 h2 h3 => c_Mo_ask h1 h2 h3) rfl rfl wc_7_206 (by decide) (Nat.le_of_ble_eq_true rfl) D_Mo_readByte_3 (fun s1 a2 => ?_)
  refine g_istore_n (L' := [(3, .inl a2), (0, .inr (.inr 0)), (1, .inl v1), (2, .inl v2)]) C D_Mo_readByte_6 rfl (by decide) rfl ?_
  refine g_aload_n C D_Mo_readByte_7 rfl 1 rfl ?_
  refine g_getr (ci := 7) C 14 rfl kI7 rfl (by decide) rfl rfl wf_7_45 D_Mo_readByte_8 ?_
  refine g_iload_n C D_Mo_readByte_11 rfl 0 rfl ?_
  refine g_iald C rfl rfl rfl D_Mo_readByte_12 ?_
  refine g_iload_n C D_Mo_readByte_13 rfl 3 rfl ?_
  refine g_bipush C D_Mo_readByte_14 (by decide) ⟨by decide, by decide⟩ ?_
  refine g_irem C D_Mo_readByte_16 ?_
  refine g_ishr C D_Mo_readByte_17 ?_
  refine g_iconst C D_Mo_readByte_18 ⟨by decide, by decide⟩ ?_
  refine g_iand C D_Mo_readByte_19 ?_
  refine g_iconst C D_Mo_readByte_20 ⟨by decide, by decide⟩ ?_
  refine g_icmp_ne (tgt := 29) C D_Mo_readByte_21 (by decide) ?_ ?_
  · refine g_aload_n C D_Mo_readByte_29 rfl 1 rfl ?_
    refine g_getr (ci := 7) C 13 rfl kI7 rfl (by decide) rfl rfl wf_7_42 D_Mo_readByte_30 ?_
    refine g_bipush C D_Mo_readByte_33 (by decide) ⟨by decide, by decide⟩ ?_
    refine g_iload_n C D_Mo_readByte_35 rfl 0 rfl ?_
    refine g_imul C D_Mo_readByte_36 (fun a3 => ?_)
    refine g_iload_n C D_Mo_readByte_37 rfl 3 rfl ?_
    refine g_bipush C D_Mo_readByte_38 (by decide) ⟨by decide, by decide⟩ ?_
    refine g_irem C D_Mo_readByte_40 ?_
    refine g_iadd C D_Mo_readByte_41 (fun a4 => ?_)
    refine g_iald C rfl rfl rfl D_Mo_readByte_42 ?_
    refine g_sub [] rfl ?_
    exact wj_Mo_readByte_43 C _ _
  · refine g_bipush C D_Mo_readByte_24 (by decide) ⟨by decide, by decide⟩ ?_
    refine g_goto (tgt := 43) C D_Mo_readByte_26 (by decide) ?_
    refine g_sub [] rfl ?_
    exact wj_Mo_readByte_43 C _ _
theorem c_Mo_readByte {σ : gM} {v1 v2 : Int} {r : gR} (ho : F_Mo_readByte σ v1 v2 = some r) (hok : gOk [.inr (.inr 0), .inl v1, .inl v2]) (hin : gIn gctM σ) : gCt gctM Y_Mo_readByte prog_9_method_30_code 4 (some .int) 7 168 [.inr (.inr 0), .inl v1, .inl v2] σ r := g_entry (by decide) rfl (Nat.le_of_ble_eq_true rfl) ho hok hin (fun X C => w_Mo_readByte C σ v1 v2)
theorem D_Mo_writeByte_0 : decode prog_9_method_31_code 0 = .ok (.aload_n 0, 1) := by decide +kernel
theorem D_Mo_writeByte_1 : decode prog_9_method_31_code 1 = .ok (.iload_n 1, 1) := by decide +kernel
theorem D_Mo_writeByte_2 : decode prog_9_method_31_code 2 = .ok (.iload_n 2, 1) := by decide +kernel
theorem D_Mo_writeByte_3 : decode prog_9_method_31_code 3 = .ok (.invokevirtual 206, 3) := by decide +kernel
theorem D_Mo_writeByte_6 : decode prog_9_method_31_code 6 = .ok (.istore 4, 2) := by decide +kernel
theorem D_Mo_writeByte_8 : decode prog_9_method_31_code 8 = .ok (.aload_n 0, 1) := by decide +kernel
theorem D_Mo_writeByte_9 : decode prog_9_method_31_code 9 = .ok (.iconst 1, 1) := by decide +kernel
theorem D_Mo_writeByte_10 : decode prog_9_method_31_code 10 = .ok (.iload_n 1, 1) := by decide +kernel
theorem D_Mo_writeByte_11 : decode prog_9_method_31_code 11 = .ok (.isub, 1) := by decide +kernel
theorem D_Mo_writeByte_12 : decode prog_9_method_31_code 12 = .ok (.iload_n 2, 1) := by decide +kernel
theorem D_Mo_writeByte_13 : decode prog_9_method_31_code 13 = .ok (.bipush 8, 2) := by decide +kernel
theorem D_Mo_writeByte_15 : decode prog_9_method_31_code 15 = .ok (.idiv, 1) := by decide +kernel
theorem D_Mo_writeByte_16 : decode prog_9_method_31_code 16 = .ok (.invokevirtual 190, 3) := by decide +kernel
theorem D_Mo_writeByte_19 : decode prog_9_method_31_code 19 = .ok (.istore 5, 2) := by decide +kernel
theorem D_Mo_writeByte_21 : decode prog_9_method_31_code 21 = .ok (.iload 5, 2) := by decide +kernel
theorem D_Mo_writeByte_23 : decode prog_9_method_31_code 23 = .ok (.bipush (-4), 2) := by decide +kernel
theorem D_Mo_writeByte_25 : decode prog_9_method_31_code 25 = .ok (.if_icmp .eq 29, 3) := by decide +kernel
theorem D_Mo_writeByte_28 : decode prog_9_method_31_code 28 = .ok (.aload_n 0, 1) := by decide +kernel
theorem D_Mo_writeByte_29 : decode prog_9_method_31_code 29 = .ok (.getfield 29, 3) := by decide +kernel
theorem D_Mo_writeByte_32 : decode prog_9_method_31_code 32 = .ok (.iload 5, 2) := by decide +kernel
theorem D_Mo_writeByte_34 : decode prog_9_method_31_code 34 = .ok (.bipush (-4), 2) := by decide +kernel
theorem D_Mo_writeByte_36 : decode prog_9_method_31_code 36 = .ok (.iastore, 1) := by decide +kernel
theorem D_Mo_writeByte_37 : decode prog_9_method_31_code 37 = .ok (.aload_n 0, 1) := by decide +kernel
theorem D_Mo_writeByte_38 : decode prog_9_method_31_code 38 = .ok (.getfield 51, 3) := by decide +kernel
theorem D_Mo_writeByte_41 : decode prog_9_method_31_code 41 = .ok (.bipush 64, 2) := by decide +kernel
theorem D_Mo_writeByte_43 : decode prog_9_method_31_code 43 = .ok (.iconst 1, 1) := by decide +kernel
theorem D_Mo_writeByte_44 : decode prog_9_method_31_code 44 = .ok (.iload_n 1, 1) := by decide +kernel
theorem D_Mo_writeByte_45 : decode prog_9_method_31_code 45 = .ok (.isub, 1) := by decide +kernel
theorem D_Mo_writeByte_46 : decode prog_9_method_31_code 46 = .ok (.imul, 1) := by decide +kernel
theorem D_Mo_writeByte_47 : decode prog_9_method_31_code 47 = .ok (.iload_n 2, 1) := by decide +kernel
theorem D_Mo_writeByte_48 : decode prog_9_method_31_code 48 = .ok (.bipush 8, 2) := by decide +kernel
theorem D_Mo_writeByte_50 : decode prog_9_method_31_code 50 = .ok (.idiv, 1) := by decide +kernel
theorem D_Mo_writeByte_51 : decode prog_9_method_31_code 51 = .ok (.iadd, 1) := by decide +kernel
theorem D_Mo_writeByte_52 : decode prog_9_method_31_code 52 = .ok (.iconst 1, 1) := by decide +kernel
theorem D_Mo_writeByte_53 : decode prog_9_method_31_code 53 = .ok (.bastore, 1) := by decide +kernel
theorem D_Mo_writeByte_54 : decode prog_9_method_31_code 54 = .ok (.aload_n 0, 1) := by decide +kernel
theorem D_Mo_writeByte_55 : decode prog_9_method_31_code 55 = .ok (.getfield 42, 3) := by decide +kernel
theorem D_Mo_writeByte_58 : decode prog_9_method_31_code 58 = .ok (.bipush 8, 2) := by decide +kernel
theorem D_Mo_writeByte_60 : decode prog_9_method_31_code 60 = .ok (.iload 4, 2) := by decide +kernel
theorem D_Mo_writeByte_62 : decode prog_9_method_31_code 62 = .ok (.imul, 1) := by decide +kernel
theorem D_Mo_writeByte_63 : decode prog_9_method_31_code 63 = .ok (.iload_n 2, 1) := by decide +kernel
theorem D_Mo_writeByte_64 : decode prog_9_method_31_code 64 = .ok (.bipush 8, 2) := by decide +kernel
theorem D_Mo_writeByte_66 : decode prog_9_method_31_code 66 = .ok (.irem, 1) := by decide +kernel
theorem D_Mo_writeByte_67 : decode prog_9_method_31_code 67 = .ok (.iadd, 1) := by decide +kernel
theorem D_Mo_writeByte_68 : decode prog_9_method_31_code 68 = .ok (.iload_n 3, 1) := by decide +kernel
theorem D_Mo_writeByte_69 : decode prog_9_method_31_code 69 = .ok (.iastore, 1) := by decide +kernel
theorem D_Mo_writeByte_70 : decode prog_9_method_31_code 70 = .ok (.aload_n 0, 1) := by decide +kernel
theorem D_Mo_writeByte_71 : decode prog_9_method_31_code 71 = .ok (.getfield 45, 3) := by decide +kernel
theorem D_Mo_writeByte_74 : decode prog_9_method_31_code 74 = .ok (.iload 4, 2) := by decide +kernel
theorem D_Mo_writeByte_76 : decode prog_9_method_31_code 76 = .ok (.dup2, 1) := by decide +kernel
theorem D_Mo_writeByte_77 : decode prog_9_method_31_code 77 = .ok (.iaload, 1) := by decide +kernel
theorem D_Mo_writeByte_78 : decode prog_9_method_31_code 78 = .ok (.iconst 1, 1) := by decide +kernel
theorem D_Mo_writeByte_79 : decode prog_9_method_31_code 79 = .ok (.iload_n 2, 1) := by decide +kernel
theorem D_Mo_writeByte_80 : decode prog_9_method_31_code 80 = .ok (.bipush 8, 2) := by decide +kernel
theorem D_Mo_writeByte_82 : decode prog_9_method_31_code 82 = .ok (.irem, 1) := by decide +kernel
theorem D_Mo_writeByte_83 : decode prog_9_method_31_code 83 = .ok (.ishl, 1) := by decide +kernel
theorem D_Mo_writeByte_84 : decode prog_9_method_31_code 84 = .ok (.iconst (-1), 1) := by decide +kernel
theorem D_Mo_writeByte_85 : decode prog_9_method_31_code 85 = .ok (.ixor, 1) := by decide +kernel
theorem D_Mo_writeByte_86 : decode prog_9_method_31_code 86 = .ok (.iand, 1) := by decide +kernel
theorem D_Mo_writeByte_87 : decode prog_9_method_31_code 87 = .ok (.iastore, 1) := by decide +kernel
theorem D_Mo_writeByte_88 : decode prog_9_method_31_code 88 = .ok (.aload_n 0, 1) := by decide +kernel
theorem D_Mo_writeByte_89 : decode prog_9_method_31_code 89 = .ok (.getfield 26, 3) := by decide +kernel
theorem D_Mo_writeByte_92 : decode prog_9_method_31_code 92 = .ok (.iconst 1, 1) := by decide +kernel
theorem D_Mo_writeByte_93 : decode prog_9_method_31_code 93 = .ok (.if_icmp .ne 14, 3) := by decide +kernel
theorem D_Mo_writeByte_96 : decode prog_9_method_31_code 96 = .ok (.aload_n 0, 1) := by decide +kernel
theorem D_Mo_writeByte_97 : decode prog_9_method_31_code 97 = .ok (.getfield 32, 3) := by decide +kernel
theorem D_Mo_writeByte_100 : decode prog_9_method_31_code 100 = .ok (.iload 4, 2) := by decide +kernel
theorem D_Mo_writeByte_102 : decode prog_9_method_31_code 102 = .ok (.iconst 1, 1) := by decide +kernel
theorem D_Mo_writeByte_103 : decode prog_9_method_31_code 103 = .ok (.bastore, 1) := by decide +kernel
theorem D_Mo_writeByte_104 : decode prog_9_method_31_code 104 = .ok (.goto 27, 3) := by decide +kernel
theorem D_Mo_writeByte_107 : decode prog_9_method_31_code 107 = .ok (.aload_n 0, 1) := by decide +kernel
theorem D_Mo_writeByte_108 : decode prog_9_method_31_code 108 = .ok (.iload_n 2, 1) := by decide +kernel
theorem D_Mo_writeByte_109 : decode prog_9_method_31_code 109 = .ok (.bipush 8, 2) := by decide +kernel
theorem D_Mo_writeByte_111 : decode prog_9_method_31_code 111 = .ok (.idiv, 1) := by decide +kernel
theorem D_Mo_writeByte_112 : decode prog_9_method_31_code 112 = .ok (.invokevirtual 167, 3) := by decide +kernel
theorem D_Mo_writeByte_115 : decode prog_9_method_31_code 115 = .ok (.aload_n 0, 1) := by decide +kernel
theorem D_Mo_writeByte_116 : decode prog_9_method_31_code 116 = .ok (.iconst 0, 1) := by decide +kernel
theorem D_Mo_writeByte_117 : decode prog_9_method_31_code 117 = .ok (.iconst 1, 1) := by decide +kernel
theorem D_Mo_writeByte_118 : decode prog_9_method_31_code 118 = .ok (.invokevirtual 157, 3) := by decide +kernel
theorem D_Mo_writeByte_121 : decode prog_9_method_31_code 121 = .ok (.aload_n 0, 1) := by decide +kernel
theorem D_Mo_writeByte_122 : decode prog_9_method_31_code 122 = .ok (.getfield 7, 3) := by decide +kernel
theorem D_Mo_writeByte_125 : decode prog_9_method_31_code 125 = .ok (.iload_n 2, 1) := by decide +kernel
theorem D_Mo_writeByte_126 : decode prog_9_method_31_code 126 = .ok (.iload_n 3, 1) := by decide +kernel
theorem D_Mo_writeByte_127 : decode prog_9_method_31_code 127 = .ok (.invokestatic 164, 3) := by decide +kernel
theorem D_Mo_writeByte_130 : decode prog_9_method_31_code 130 = .ok (.iastore, 1) := by decide +kernel
theorem D_Mo_writeByte_131 : decode prog_9_method_31_code 131 = .ok (.return_, 1) := by decide +kernel
def j_Mo_writeByte_131 (σ : gM) : gO :=
  some (σ, 0)
set_option maxHeartbeats 4000000 in
theorem wj_Mo_writeByte_131 {X : gX} (C : gC gctM prog_9_method_31_code kR7 6 7 168 (none) X) (σ : gM) : GG gctM X 131 [] [] σ (j_Mo_writeByte_131 σ) := by
  unfold j_Mo_writeByte_131
  exact g_vret C D_Mo_writeByte_131
def j_Mo_writeByte_54 (σ : gM) (v2 v3 v4 : Int) : gO :=
  ga (8 * v4) fun a1 =>
  gd v2 8 <|
  ga (a1 + (v2 % 8)) fun a2 =>
  gw σ 8 256 a2 v3 fun s3 =>
  gi v4 32 <|
  gd v2 8 <|
  gw s3 9 32 v4 (gAnd (s3 9 v4) (gXor (gShl 1 (v2 % 8)) (-1))) fun s4 =>
  if (s4 0 8) = 1 then
  (gwb s4 5 32 v4 1 fun s10 =>
  j_Mo_writeByte_131 s10)
  else
  (gd v2 8 <|
  gk (F_Mo_openFor s4 (v2 / 8)) fun s5 _ =>
  gk (F_Mo_tick s5 0 1) fun s6 _ =>
  gk (F_Mo_code s6 v3) fun s7 a8 =>
  gw s7 1 512 v2 a8 fun s9 =>
  j_Mo_writeByte_131 s9)
set_option maxHeartbeats 4000000 in
theorem wj_Mo_writeByte_54 {X : gX} (C : gC gctM prog_9_method_31_code kR7 6 7 168 (none) X) (σ : gM) (v2 v3 v4 : Int) : GG gctM X 54 [(0, .inr (.inr 0)), (2, .inl v2), (3, .inl v3), (4, .inl v4)] [] σ (j_Mo_writeByte_54 σ v2 v3 v4) := by
  unfold j_Mo_writeByte_54
  refine g_aload_n C D_Mo_writeByte_54 rfl 0 rfl ?_
  refine g_getr (ci := 7) C 13 rfl kI7 rfl (by decide) rfl rfl wf_7_42 D_Mo_writeByte_55 ?_
  refine g_bipush C D_Mo_writeByte_58 (by decide) ⟨by decide, by decide⟩ ?_
  refine g_iload C D_Mo_writeByte_60 3 rfl ?_
  refine g_imul C D_Mo_writeByte_62 (fun a1 => ?_)
  refine g_iload_n C D_Mo_writeByte_63 rfl 1 rfl ?_
  refine g_bipush C D_Mo_writeByte_64 (by decide) ⟨by decide, by decide⟩ ?_
  refine g_irem C D_Mo_writeByte_66 ?_
  refine g_iadd C D_Mo_writeByte_67 (fun a2 => ?_)
  refine g_iload_n C D_Mo_writeByte_68 rfl 2 rfl ?_
  refine g_iast C rfl rfl D_Mo_writeByte_69 (fun s3 => ?_)
  refine g_aload_n C D_Mo_writeByte_70 rfl 0 rfl ?_
  refine g_getr (ci := 7) C 14 rfl kI7 rfl (by decide) rfl rfl wf_7_45 D_Mo_writeByte_71 ?_
  refine g_iload C D_Mo_writeByte_74 3 rfl ?_
  refine g_dup2 C D_Mo_writeByte_76 rfl rfl ?_
  refine g_iald C rfl rfl rfl D_Mo_writeByte_77 ?_
  refine g_iconst C D_Mo_writeByte_78 ⟨by decide, by decide⟩ ?_
  refine g_iload_n C D_Mo_writeByte_79 rfl 1 rfl ?_
  refine g_bipush C D_Mo_writeByte_80 (by decide) ⟨by decide, by decide⟩ ?_
  refine g_irem C D_Mo_writeByte_82 ?_
  refine g_ishl C D_Mo_writeByte_83 ?_
  refine g_iconst C D_Mo_writeByte_84 ⟨by decide, by decide⟩ ?_
  refine g_ixor C D_Mo_writeByte_85 ?_
  refine g_iand C D_Mo_writeByte_86 ?_
  refine g_iast C rfl rfl D_Mo_writeByte_87 (fun s4 => ?_)
  refine g_aload_n C D_Mo_writeByte_88 rfl 0 rfl ?_
  refine g_get (ci := 7) C 8 (jz := 8) rfl rfl kI7 rfl (by decide) rfl rfl wf_7_26 rfl D_Mo_writeByte_89 ?_
  refine g_iconst C D_Mo_writeByte_92 ⟨by decide, by decide⟩ ?_
  refine g_icmp_ne (tgt := 107) C D_Mo_writeByte_93 (by decide) ?_ ?_
  · refine g_aload_n C D_Mo_writeByte_107 rfl 0 rfl ?_
    refine g_iload_n C D_Mo_writeByte_108 rfl 1 rfl ?_
    refine g_bipush C D_Mo_writeByte_109 (by decide) ⟨by decide, by decide⟩ ?_
    refine g_idiv C D_Mo_writeByte_111 ?_
    refine g_callVv (ci := 7) C [.inl (v2 / 8)] [] rfl rfl (fun _ h1 h2 h3 => c_Mo_openFor h1 h2 h3) rfl rfl wc_7_167 (by decide) (Nat.le_of_ble_eq_true rfl) D_Mo_writeByte_112 (fun s5 _ => ?_)
    refine g_aload_n C D_Mo_writeByte_115 rfl 0 rfl ?_
    refine g_iconst C D_Mo_writeByte_116 ⟨by decide, by decide⟩ ?_
    refine g_iconst C D_Mo_writeByte_117 ⟨by decide, by decide⟩ ?_
    refine g_callVv (ci := 7) C [.inl 0, .inl 1] [] rfl rfl (fun _ h1 h2 h3 => c_Mo_tick h1 h2 h3) rfl rfl wc_7_157 (by decide) (Nat.le_of_ble_eq_true rfl) D_Mo_writeByte_118 (fun s6 _ => ?_)
    refine g_aload_n C D_Mo_writeByte_121 rfl 0 rfl ?_
    refine g_getr (ci := 7) C 0 rfl kI7 rfl (by decide) rfl rfl wf_7_7 D_Mo_writeByte_122 ?_
    refine g_iload_n C D_Mo_writeByte_125 rfl 1 rfl ?_
    refine g_iload_n C D_Mo_writeByte_126 rfl 2 rfl ?_
    refine g_callSi C [.inl v3] [.inl v2, .inr (.inr 1)] (Or.inl rfl) rfl (fun _ h1 h2 h3 => c_Mo_code h1 h2 h3) wc_7_164 (by decide) (Nat.le_of_ble_eq_true rfl) D_Mo_writeByte_127 (fun s7 a8 => ?_)
    refine g_iast C rfl rfl D_Mo_writeByte_130 (fun s9 => ?_)
    refine g_sub [] rfl ?_
    exact wj_Mo_writeByte_131 C _
  · refine g_aload_n C D_Mo_writeByte_96 rfl 0 rfl ?_
    refine g_getr (ci := 7) C 10 rfl kI7 rfl (by decide) rfl rfl wf_7_32 D_Mo_writeByte_97 ?_
    refine g_iload C D_Mo_writeByte_100 3 rfl ?_
    refine g_iconst C D_Mo_writeByte_102 ⟨by decide, by decide⟩ ?_
    refine g_zast C rfl rfl D_Mo_writeByte_103 (fun s10 => ?_)
    refine g_goto (tgt := 131) C D_Mo_writeByte_104 (by decide) ?_
    refine g_sub [] rfl ?_
    exact wj_Mo_writeByte_131 C _
def F_Mo_writeByte (σ : gM) (v1 v2 v3 : Int) : gO :=
  gk (F_Mo_ask σ v1 v2) fun s1 a2 =>
  ga (1 - v1) fun a3 =>
  gd v2 8 <|
  gk (F_Mo_find s1 a3 (v2 / 8)) fun s4 a5 =>
  if a5 = (-4) then
  (j_Mo_writeByte_54 s4 v2 v3 a2)
  else
  (gw s4 4 32 a5 (-4) fun s6 =>
  ga (1 - v1) fun a7 =>
  ga (64 * a7) fun a8 =>
  gd v2 8 <|
  ga (a8 + (v2 / 8)) fun a9 =>
  gwb s6 11 128 a9 1 fun s10 =>
  j_Mo_writeByte_54 s10 v2 v3 a2)
set_option maxHeartbeats 4000000 in
theorem w_Mo_writeByte {X : gX} (C : gC gctM prog_9_method_31_code kR7 6 7 168 (none) X) (σ : gM) (v1 v2 v3 : Int) : GG gctM X 0 [(0, .inr (.inr 0)), (1, .inl v1), (2, .inl v2), (3, .inl v3)] [] σ (F_Mo_writeByte σ v1 v2 v3) := by
  unfold F_Mo_writeByte
  refine g_aload_n C D_Mo_writeByte_0 rfl 0 rfl ?_
  refine g_iload_n C D_Mo_writeByte_1 rfl 1 rfl ?_
  refine g_iload_n C D_Mo_writeByte_2 rfl 2 rfl ?_
  refine g_callVi (ci := 7) C [.inl v1, .inl v2] [] (Or.inl rfl) rfl (fun _ h1 h2 h3 => c_Mo_ask h1 h2 h3) rfl rfl wc_7_206 (by decide) (Nat.le_of_ble_eq_true rfl) D_Mo_writeByte_3 (fun s1 a2 => ?_)
  refine g_istore (L' := [(4, .inl a2), (0, .inr (.inr 0)), (1, .inl v1), (2, .inl v2), (3, .inl v3)]) C D_Mo_writeByte_6 (by decide) rfl ?_
  refine g_aload_n C D_Mo_writeByte_8 rfl 1 rfl ?_
  refine g_iconst C D_Mo_writeByte_9 ⟨by decide, by decide⟩ ?_
  refine g_iload_n C D_Mo_writeByte_10 rfl 2 rfl ?_
  refine g_isub C D_Mo_writeByte_11 (fun a3 => ?_)
  refine g_iload_n C D_Mo_writeByte_12 rfl 3 rfl ?_
  refine g_bipush C D_Mo_writeByte_13 (by decide) ⟨by decide, by decide⟩ ?_
  refine g_idiv C D_Mo_writeByte_15 ?_
  refine g_callVi (ci := 7) C [.inl a3, .inl (v2 / 8)] [] (Or.inl rfl) rfl (fun _ h1 h2 h3 => c_Mo_find h1 h2 h3) rfl rfl wc_7_190 (by decide) (Nat.le_of_ble_eq_true rfl) D_Mo_writeByte_16 (fun s4 a5 => ?_)
  refine g_istore (L' := [(5, .inl a5), (4, .inl a2), (0, .inr (.inr 0)), (1, .inl v1), (2, .inl v2), (3, .inl v3)]) C D_Mo_writeByte_19 (by decide) rfl ?_
  refine g_iload C D_Mo_writeByte_21 0 rfl ?_
  refine g_bipush C D_Mo_writeByte_23 (by decide) ⟨by decide, by decide⟩ ?_
  refine g_icmp_eq (tgt := 54) C D_Mo_writeByte_25 (by decide) ?_ ?_
  · refine g_sub [2, 4, 5, 1] rfl ?_
    exact wj_Mo_writeByte_54 C _ _ _ _
  · refine g_aload_n C D_Mo_writeByte_28 rfl 2 rfl ?_
    refine g_getr (ci := 7) C 9 rfl kI7 rfl (by decide) rfl rfl wf_7_29 D_Mo_writeByte_29 ?_
    refine g_iload C D_Mo_writeByte_32 0 rfl ?_
    refine g_bipush C D_Mo_writeByte_34 (by decide) ⟨by decide, by decide⟩ ?_
    refine g_iast C rfl rfl D_Mo_writeByte_36 (fun s6 => ?_)
    refine g_aload_n C D_Mo_writeByte_37 rfl 2 rfl ?_
    refine g_getr (ci := 7) C 16 rfl kI7 rfl (by decide) rfl rfl wf_7_51 D_Mo_writeByte_38 ?_
    refine g_bipush C D_Mo_writeByte_41 (by decide) ⟨by decide, by decide⟩ ?_
    refine g_iconst C D_Mo_writeByte_43 ⟨by decide, by decide⟩ ?_
    refine g_iload_n C D_Mo_writeByte_44 rfl 3 rfl ?_
    refine g_isub C D_Mo_writeByte_45 (fun a7 => ?_)
    refine g_imul C D_Mo_writeByte_46 (fun a8 => ?_)
    refine g_iload_n C D_Mo_writeByte_47 rfl 4 rfl ?_
    refine g_bipush C D_Mo_writeByte_48 (by decide) ⟨by decide, by decide⟩ ?_
    refine g_idiv C D_Mo_writeByte_50 ?_
    refine g_iadd C D_Mo_writeByte_51 (fun a9 => ?_)
    refine g_iconst C D_Mo_writeByte_52 ⟨by decide, by decide⟩ ?_
    refine g_zast C rfl rfl D_Mo_writeByte_53 (fun s10 => ?_)
    refine g_sub [2, 4, 5, 1] rfl ?_
    exact wj_Mo_writeByte_54 C _ _ _ _
theorem c_Mo_writeByte {σ : gM} {v1 v2 v3 : Int} {r : gR} (ho : F_Mo_writeByte σ v1 v2 v3 = some r) (hok : gOk [.inr (.inr 0), .inl v1, .inl v2, .inl v3]) (hin : gIn gctM σ) : gCt gctM Y_Mo_writeByte prog_9_method_31_code 6 (none) 7 168 [.inr (.inr 0), .inl v1, .inl v2, .inl v3] σ r := g_entry (by decide) rfl (Nat.le_of_ble_eq_true rfl) ho hok hin (fun X C => w_Mo_writeByte C σ v1 v2 v3)
theorem D_Mo_forget_0 : decode prog_9_method_32_code 0 = .ok (.iconst 0, 1) := by decide +kernel
theorem D_Mo_forget_1 : decode prog_9_method_32_code 1 = .ok (.istore_n 2, 1) := by decide +kernel
theorem D_Mo_forget_2 : decode prog_9_method_32_code 2 = .ok (.iload_n 2, 1) := by decide +kernel
theorem D_Mo_forget_3 : decode prog_9_method_32_code 3 = .ok (.iconst 2, 1) := by decide +kernel
theorem D_Mo_forget_4 : decode prog_9_method_32_code 4 = .ok (.if_icmp .ge 45, 3) := by decide +kernel
theorem D_Mo_forget_7 : decode prog_9_method_32_code 7 = .ok (.aload_n 0, 1) := by decide +kernel
theorem D_Mo_forget_8 : decode prog_9_method_32_code 8 = .ok (.getfield 48, 3) := by decide +kernel
theorem D_Mo_forget_11 : decode prog_9_method_32_code 11 = .ok (.bipush 64, 2) := by decide +kernel
theorem D_Mo_forget_13 : decode prog_9_method_32_code 13 = .ok (.iload_n 2, 1) := by decide +kernel
theorem D_Mo_forget_14 : decode prog_9_method_32_code 14 = .ok (.imul, 1) := by decide +kernel
theorem D_Mo_forget_15 : decode prog_9_method_32_code 15 = .ok (.iload_n 1, 1) := by decide +kernel
theorem D_Mo_forget_16 : decode prog_9_method_32_code 16 = .ok (.iadd, 1) := by decide +kernel
theorem D_Mo_forget_17 : decode prog_9_method_32_code 17 = .ok (.iconst 0, 1) := by decide +kernel
theorem D_Mo_forget_18 : decode prog_9_method_32_code 18 = .ok (.bastore, 1) := by decide +kernel
theorem D_Mo_forget_19 : decode prog_9_method_32_code 19 = .ok (.aload_n 0, 1) := by decide +kernel
theorem D_Mo_forget_20 : decode prog_9_method_32_code 20 = .ok (.getfield 51, 3) := by decide +kernel
theorem D_Mo_forget_23 : decode prog_9_method_32_code 23 = .ok (.bipush 64, 2) := by decide +kernel
theorem D_Mo_forget_25 : decode prog_9_method_32_code 25 = .ok (.iload_n 2, 1) := by decide +kernel
theorem D_Mo_forget_26 : decode prog_9_method_32_code 26 = .ok (.imul, 1) := by decide +kernel
theorem D_Mo_forget_27 : decode prog_9_method_32_code 27 = .ok (.iload_n 1, 1) := by decide +kernel
theorem D_Mo_forget_28 : decode prog_9_method_32_code 28 = .ok (.iadd, 1) := by decide +kernel
theorem D_Mo_forget_29 : decode prog_9_method_32_code 29 = .ok (.iconst 0, 1) := by decide +kernel
theorem D_Mo_forget_30 : decode prog_9_method_32_code 30 = .ok (.bastore, 1) := by decide +kernel
theorem D_Mo_forget_31 : decode prog_9_method_32_code 31 = .ok (.aload_n 0, 1) := by decide +kernel
theorem D_Mo_forget_32 : decode prog_9_method_32_code 32 = .ok (.getfield 54, 3) := by decide +kernel
theorem D_Mo_forget_35 : decode prog_9_method_32_code 35 = .ok (.bipush 64, 2) := by decide +kernel
theorem D_Mo_forget_37 : decode prog_9_method_32_code 37 = .ok (.iload_n 2, 1) := by decide +kernel
theorem D_Mo_forget_38 : decode prog_9_method_32_code 38 = .ok (.imul, 1) := by decide +kernel
theorem D_Mo_forget_39 : decode prog_9_method_32_code 39 = .ok (.iload_n 1, 1) := by decide +kernel
theorem D_Mo_forget_40 : decode prog_9_method_32_code 40 = .ok (.iadd, 1) := by decide +kernel
theorem D_Mo_forget_41 : decode prog_9_method_32_code 41 = .ok (.iconst 0, 1) := by decide +kernel
theorem D_Mo_forget_42 : decode prog_9_method_32_code 42 = .ok (.iastore, 1) := by decide +kernel
theorem D_Mo_forget_43 : decode prog_9_method_32_code 43 = .ok (.iinc 2 1, 3) := by decide +kernel
theorem D_Mo_forget_46 : decode prog_9_method_32_code 46 = .ok (.goto (-44), 3) := by decide +kernel
theorem D_Mo_forget_49 : decode prog_9_method_32_code 49 = .ok (.return_, 1) := by decide +kernel
def l_Mo_forget_2 (p1 : Int) (rec : gM → Int → gO) (σ : gM) (v2 : Int) : gO :=
  if v2 < 2 then
  (ga (64 * v2) fun a1 =>
  ga (a1 + p1) fun a2 =>
  gwb σ 10 128 a2 0 fun s3 =>
  ga (64 * v2) fun a4 =>
  ga (a4 + p1) fun a5 =>
  gwb s3 11 128 a5 0 fun s6 =>
  ga (64 * v2) fun a7 =>
  ga (a7 + p1) fun a8 =>
  gw s6 12 128 a8 0 fun s9 =>
  ga (v2 + 1) fun a10 =>
  rec s9 a10)
  else
  (some (σ, 0))
set_option maxHeartbeats 4000000 in
theorem wl_Mo_forget_2 {X : gX} (C : gC gctM prog_9_method_32_code kR7 3 0 0 (none) X) {p1 : Int} : ∀ (n : Nat) (σ : gM) (a0 : Int), GG gctM X 2 [(0, .inr (.inr 0)), (1, .inl p1), (2, .inl a0)] [] σ (gl1 (l_Mo_forget_2 p1) n σ a0) := by
  refine gl1_run (P := fun σ a0 o => GG gctM X 2 [(0, .inr (.inr 0)), (1, .inl p1), (2, .inl a0)] [] σ o) (fun _ _ => g_none) (fun rec hrec σ v2 => ?_)
  unfold l_Mo_forget_2
  refine g_iload_n C D_Mo_forget_2 rfl 2 rfl ?_
  refine g_iconst C D_Mo_forget_3 ⟨by decide, by decide⟩ ?_
  refine g_icmp_ge (tgt := 49) C D_Mo_forget_4 (by decide) ?_ ?_
  · exact g_vret C D_Mo_forget_49
  · refine g_aload_n C D_Mo_forget_7 rfl 0 rfl ?_
    refine g_getr (ci := 7) C 15 rfl kI7 rfl (by decide) rfl rfl wf_7_48 D_Mo_forget_8 ?_
    refine g_bipush C D_Mo_forget_11 (by decide) ⟨by decide, by decide⟩ ?_
    refine g_iload_n C D_Mo_forget_13 rfl 2 rfl ?_
    refine g_imul C D_Mo_forget_14 (fun a1 => ?_)
    refine g_iload_n C D_Mo_forget_15 rfl 1 rfl ?_
    refine g_iadd C D_Mo_forget_16 (fun a2 => ?_)
    refine g_iconst C D_Mo_forget_17 ⟨by decide, by decide⟩ ?_
    refine g_zast C rfl rfl D_Mo_forget_18 (fun s3 => ?_)
    refine g_aload_n C D_Mo_forget_19 rfl 0 rfl ?_
    refine g_getr (ci := 7) C 16 rfl kI7 rfl (by decide) rfl rfl wf_7_51 D_Mo_forget_20 ?_
    refine g_bipush C D_Mo_forget_23 (by decide) ⟨by decide, by decide⟩ ?_
    refine g_iload_n C D_Mo_forget_25 rfl 2 rfl ?_
    refine g_imul C D_Mo_forget_26 (fun a4 => ?_)
    refine g_iload_n C D_Mo_forget_27 rfl 1 rfl ?_
    refine g_iadd C D_Mo_forget_28 (fun a5 => ?_)
    refine g_iconst C D_Mo_forget_29 ⟨by decide, by decide⟩ ?_
    refine g_zast C rfl rfl D_Mo_forget_30 (fun s6 => ?_)
    refine g_aload_n C D_Mo_forget_31 rfl 0 rfl ?_
    refine g_getr (ci := 7) C 17 rfl kI7 rfl (by decide) rfl rfl wf_7_54 D_Mo_forget_32 ?_
    refine g_bipush C D_Mo_forget_35 (by decide) ⟨by decide, by decide⟩ ?_
    refine g_iload_n C D_Mo_forget_37 rfl 2 rfl ?_
    refine g_imul C D_Mo_forget_38 (fun a7 => ?_)
    refine g_iload_n C D_Mo_forget_39 rfl 1 rfl ?_
    refine g_iadd C D_Mo_forget_40 (fun a8 => ?_)
    refine g_iconst C D_Mo_forget_41 ⟨by decide, by decide⟩ ?_
    refine g_iast C rfl rfl D_Mo_forget_42 (fun s9 => ?_)
    refine g_iinc (t := 2) (L' := fun z => [(2, .inl z), (0, .inr (.inr 0)), (1, .inl p1)]) C D_Mo_forget_43 rfl (by decide) (fun _ => rfl) (fun a10 => ?_)
    refine g_goto (tgt := 2) C D_Mo_forget_46 (by decide) ?_
    refine g_sub [1, 2, 0] rfl ?_
    exact hrec _ _
def F_Mo_forget (σ : gM) (v1 : Int) : gO :=
  gl1 (l_Mo_forget_2 v1) 200 σ 0
set_option maxHeartbeats 4000000 in
theorem w_Mo_forget {X : gX} (C : gC gctM prog_9_method_32_code kR7 3 0 0 (none) X) (σ : gM) (v1 : Int) : GG gctM X 0 [(0, .inr (.inr 0)), (1, .inl v1)] [] σ (F_Mo_forget σ v1) := by
  unfold F_Mo_forget
  refine g_iconst C D_Mo_forget_0 ⟨by decide, by decide⟩ ?_
  refine g_istore_n (L' := [(2, .inl 0), (0, .inr (.inr 0)), (1, .inl v1)]) C D_Mo_forget_1 rfl (by decide) rfl ?_
  refine g_sub [1, 2, 0] rfl ?_
  exact wl_Mo_forget_2 C 200 _ _
theorem c_Mo_forget {σ : gM} {v1 : Int} {r : gR} (ho : F_Mo_forget σ v1 = some r) (hok : gOk [.inr (.inr 0), .inl v1]) (hin : gIn gctM σ) : gCt gctM Y_Mo_forget prog_9_method_32_code 3 (none) 0 0 [.inr (.inr 0), .inl v1] σ r := g_entry (by decide) rfl (Nat.le_of_ble_eq_true rfl) ho hok hin (fun X C => w_Mo_forget C σ v1)
theorem D_Mo_drive_0 : decode prog_9_method_33_code 0 = .ok (.iconst 0, 1) := by decide +kernel
theorem D_Mo_drive_1 : decode prog_9_method_33_code 1 = .ok (.istore 4, 2) := by decide +kernel
theorem D_Mo_drive_3 : decode prog_9_method_33_code 3 = .ok (.iload 4, 2) := by decide +kernel
theorem D_Mo_drive_5 : decode prog_9_method_33_code 5 = .ok (.iconst 2, 1) := by decide +kernel
theorem D_Mo_drive_6 : decode prog_9_method_33_code 6 = .ok (.if_icmp .ge 81, 3) := by decide +kernel
theorem D_Mo_drive_9 : decode prog_9_method_33_code 9 = .ok (.iload_n 1, 1) := by decide +kernel
theorem D_Mo_drive_10 : decode prog_9_method_33_code 10 = .ok (.istore 5, 2) := by decide +kernel
theorem D_Mo_drive_12 : decode prog_9_method_33_code 12 = .ok (.iload 5, 2) := by decide +kernel
theorem D_Mo_drive_14 : decode prog_9_method_33_code 14 = .ok (.iload_n 2, 1) := by decide +kernel
theorem D_Mo_drive_15 : decode prog_9_method_33_code 15 = .ok (.if_icmp .gt 66, 3) := by decide +kernel
theorem D_Mo_drive_18 : decode prog_9_method_33_code 18 = .ok (.aload_n 0, 1) := by decide +kernel
theorem D_Mo_drive_19 : decode prog_9_method_33_code 19 = .ok (.iload 4, 2) := by decide +kernel
theorem D_Mo_drive_21 : decode prog_9_method_33_code 21 = .ok (.iload 5, 2) := by decide +kernel
theorem D_Mo_drive_23 : decode prog_9_method_33_code 23 = .ok (.invokevirtual 190, 3) := by decide +kernel
theorem D_Mo_drive_26 : decode prog_9_method_33_code 26 = .ok (.istore 6, 2) := by decide +kernel
theorem D_Mo_drive_28 : decode prog_9_method_33_code 28 = .ok (.iload 6, 2) := by decide +kernel
theorem D_Mo_drive_30 : decode prog_9_method_33_code 30 = .ok (.bipush (-4), 2) := by decide +kernel
theorem D_Mo_drive_32 : decode prog_9_method_33_code 32 = .ok (.if_icmp .eq 43, 3) := by decide +kernel
theorem D_Mo_drive_35 : decode prog_9_method_33_code 35 = .ok (.aload_n 0, 1) := by decide +kernel
theorem D_Mo_drive_36 : decode prog_9_method_33_code 36 = .ok (.getfield 32, 3) := by decide +kernel
theorem D_Mo_drive_39 : decode prog_9_method_33_code 39 = .ok (.iload 6, 2) := by decide +kernel
theorem D_Mo_drive_41 : decode prog_9_method_33_code 41 = .ok (.baload, 1) := by decide +kernel
theorem D_Mo_drive_42 : decode prog_9_method_33_code 42 = .ok (.ifCond .eq 24, 3) := by decide +kernel
theorem D_Mo_drive_45 : decode prog_9_method_33_code 45 = .ok (.iload_n 3, 1) := by decide +kernel
theorem D_Mo_drive_46 : decode prog_9_method_33_code 46 = .ok (.ifCond .eq 14, 3) := by decide +kernel
theorem D_Mo_drive_49 : decode prog_9_method_33_code 49 = .ok (.aload_n 0, 1) := by decide +kernel
theorem D_Mo_drive_50 : decode prog_9_method_33_code 50 = .ok (.iload 6, 2) := by decide +kernel
theorem D_Mo_drive_52 : decode prog_9_method_33_code 52 = .ok (.bipush 6, 2) := by decide +kernel
theorem D_Mo_drive_54 : decode prog_9_method_33_code 54 = .ok (.invokevirtual 183, 3) := by decide +kernel
theorem D_Mo_drive_57 : decode prog_9_method_33_code 57 = .ok (.goto 9, 3) := by decide +kernel
theorem D_Mo_drive_60 : decode prog_9_method_33_code 60 = .ok (.aload_n 0, 1) := by decide +kernel
theorem D_Mo_drive_61 : decode prog_9_method_33_code 61 = .ok (.iload 6, 2) := by decide +kernel
theorem D_Mo_drive_63 : decode prog_9_method_33_code 63 = .ok (.invokevirtual 171, 3) := by decide +kernel
theorem D_Mo_drive_66 : decode prog_9_method_33_code 66 = .ok (.aload_n 0, 1) := by decide +kernel
theorem D_Mo_drive_67 : decode prog_9_method_33_code 67 = .ok (.getfield 29, 3) := by decide +kernel
theorem D_Mo_drive_70 : decode prog_9_method_33_code 70 = .ok (.iload 6, 2) := by decide +kernel
theorem D_Mo_drive_72 : decode prog_9_method_33_code 72 = .ok (.bipush (-4), 2) := by decide +kernel
theorem D_Mo_drive_74 : decode prog_9_method_33_code 74 = .ok (.iastore, 1) := by decide +kernel
theorem D_Mo_drive_75 : decode prog_9_method_33_code 75 = .ok (.iinc 5 1, 3) := by decide +kernel
theorem D_Mo_drive_78 : decode prog_9_method_33_code 78 = .ok (.goto (-66), 3) := by decide +kernel
theorem D_Mo_drive_81 : decode prog_9_method_33_code 81 = .ok (.iinc 4 1, 3) := by decide +kernel
theorem D_Mo_drive_84 : decode prog_9_method_33_code 84 = .ok (.goto (-81), 3) := by decide +kernel
theorem D_Mo_drive_87 : decode prog_9_method_33_code 87 = .ok (.iload_n 1, 1) := by decide +kernel
theorem D_Mo_drive_88 : decode prog_9_method_33_code 88 = .ok (.istore 4, 2) := by decide +kernel
theorem D_Mo_drive_90 : decode prog_9_method_33_code 90 = .ok (.iload 4, 2) := by decide +kernel
theorem D_Mo_drive_92 : decode prog_9_method_33_code 92 = .ok (.iload_n 2, 1) := by decide +kernel
theorem D_Mo_drive_93 : decode prog_9_method_33_code 93 = .ok (.if_icmp .gt 15, 3) := by decide +kernel
theorem D_Mo_drive_96 : decode prog_9_method_33_code 96 = .ok (.aload_n 0, 1) := by decide +kernel
theorem D_Mo_drive_97 : decode prog_9_method_33_code 97 = .ok (.iload 4, 2) := by decide +kernel
theorem D_Mo_drive_99 : decode prog_9_method_33_code 99 = .ok (.invokevirtual 209, 3) := by decide +kernel
theorem D_Mo_drive_102 : decode prog_9_method_33_code 102 = .ok (.iinc 4 1, 3) := by decide +kernel
theorem D_Mo_drive_105 : decode prog_9_method_33_code 105 = .ok (.goto (-15), 3) := by decide +kernel
theorem D_Mo_drive_108 : decode prog_9_method_33_code 108 = .ok (.return_, 1) := by decide +kernel
def j_Mo_drive_75 (k1 : gM → gO) (rec : gM → Int → gO) (σ : gM) (p1 p2 p3 p4 v5 : Int) : gO :=
  ga (v5 + 1) fun a1 =>
  rec σ a1
set_option maxHeartbeats 4000000 in
theorem wj_Mo_drive_75 {X : gX} (C : gC gctM prog_9_method_33_code kR7 7 4 90 (none) X) {p1 p2 p3 p4 : Int} {k1 : gM → gO} (hk1 : ∀ (σ : gM), GG gctM X 81 [(0, .inr (.inr 0)), (1, .inl p1), (2, .inl p2), (3, .inl p3), (4, .inl p4)] [] σ (k1 σ)) {rec : gM → Int → gO} (hrec : ∀ (σ : gM) (a0 : Int), GG gctM X 12 [(0, .inr (.inr 0)), (1, .inl p1), (2, .inl p2), (3, .inl p3), (4, .inl p4), (5, .inl a0)] [] σ (rec σ a0)) (σ : gM) (v5 : Int) : GG gctM X 75 [(0, .inr (.inr 0)), (1, .inl p1), (2, .inl p2), (3, .inl p3), (4, .inl p4), (5, .inl v5)] [] σ (j_Mo_drive_75 k1 rec σ p1 p2 p3 p4 v5) := by
  unfold j_Mo_drive_75
  refine g_iinc (t := 5) (L' := fun z => [(5, .inl z), (0, .inr (.inr 0)), (1, .inl p1), (2, .inl p2), (3, .inl p3), (4, .inl p4)]) C D_Mo_drive_75 rfl (by decide) (fun _ => rfl) (fun a1 => ?_)
  refine g_goto (tgt := 12) C D_Mo_drive_78 (by decide) ?_
  refine g_sub [1, 2, 3, 4, 5, 0] rfl ?_
  exact hrec _ _
def j_Mo_drive_66 (k1 : gM → gO) (rec : gM → Int → gO) (σ : gM) (p1 p2 p3 p4 v5 v6 : Int) : gO :=
  gw σ 4 32 v6 (-4) fun s1 =>
  j_Mo_drive_75 k1 rec s1 p1 p2 p3 p4 v5
set_option maxHeartbeats 4000000 in
theorem wj_Mo_drive_66 {X : gX} (C : gC gctM prog_9_method_33_code kR7 7 4 90 (none) X) {p1 p2 p3 p4 : Int} {k1 : gM → gO} (hk1 : ∀ (σ : gM), GG gctM X 81 [(0, .inr (.inr 0)), (1, .inl p1), (2, .inl p2), (3, .inl p3), (4, .inl p4)] [] σ (k1 σ)) {rec : gM → Int → gO} (hrec : ∀ (σ : gM) (a0 : Int), GG gctM X 12 [(0, .inr (.inr 0)), (1, .inl p1), (2, .inl p2), (3, .inl p3), (4, .inl p4), (5, .inl a0)] [] σ (rec σ a0)) (σ : gM) (v5 v6 : Int) : GG gctM X 66 [(0, .inr (.inr 0)), (1, .inl p1), (2, .inl p2), (3, .inl p3), (4, .inl p4), (5, .inl v5), (6, .inl v6)] [] σ (j_Mo_drive_66 k1 rec σ p1 p2 p3 p4 v5 v6) := by
  unfold j_Mo_drive_66
  refine g_aload_n C D_Mo_drive_66 rfl 0 rfl ?_
  refine g_getr (ci := 7) C 9 rfl kI7 rfl (by decide) rfl rfl wf_7_29 D_Mo_drive_67 ?_
  refine g_iload C D_Mo_drive_70 6 rfl ?_
  refine g_bipush C D_Mo_drive_72 (by decide) ⟨by decide, by decide⟩ ?_
  refine g_iast C rfl rfl D_Mo_drive_74 (fun s1 => ?_)
  refine g_sub [0, 1, 2, 3, 4, 5] rfl ?_
  exact wj_Mo_drive_75 C hk1 hrec _ _
def l_Mo_drive_12 (k1 : gM → gO) (p1 p2 p3 p4 : Int) (rec : gM → Int → gO) (σ : gM) (v5 : Int) : gO :=
  if p2 < v5 then
  (k1 σ)
  else
  (gk (F_Mo_find σ p4 v5) fun s1 a2 =>
  if a2 = (-4) then
  (j_Mo_drive_75 k1 rec s1 p1 p2 p3 p4 v5)
  else
  (gi a2 32 <|
  if (s1 5 a2) = 0 then
  (j_Mo_drive_66 k1 rec s1 p1 p2 p3 p4 v5 a2)
  else
  (if p3 = 0 then
  (gk (F_Mo_writeLine s1 a2) fun s3 _ =>
  j_Mo_drive_66 k1 rec s3 p1 p2 p3 p4 v5 a2)
  else
  (gk (F_Mo_store s1 a2 6) fun s4 _ =>
  j_Mo_drive_66 k1 rec s4 p1 p2 p3 p4 v5 a2))))
set_option maxHeartbeats 4000000 in
theorem wl_Mo_drive_12 {X : gX} (C : gC gctM prog_9_method_33_code kR7 7 4 90 (none) X) {p1 p2 p3 p4 : Int} {k1 : gM → gO} (hk1 : ∀ (σ : gM), GG gctM X 81 [(0, .inr (.inr 0)), (1, .inl p1), (2, .inl p2), (3, .inl p3), (4, .inl p4)] [] σ (k1 σ)) : ∀ (n : Nat) (σ : gM) (a0 : Int), GG gctM X 12 [(0, .inr (.inr 0)), (1, .inl p1), (2, .inl p2), (3, .inl p3), (4, .inl p4), (5, .inl a0)] [] σ (gl1 (l_Mo_drive_12 k1 p1 p2 p3 p4) n σ a0) := by
  refine gl1_run (P := fun σ a0 o => GG gctM X 12 [(0, .inr (.inr 0)), (1, .inl p1), (2, .inl p2), (3, .inl p3), (4, .inl p4), (5, .inl a0)] [] σ o) (fun _ _ => g_none) (fun rec hrec σ v5 => ?_)
  unfold l_Mo_drive_12
  refine g_iload C D_Mo_drive_12 5 rfl ?_
  refine g_iload_n C D_Mo_drive_14 rfl 2 rfl ?_
  refine g_icmp_gt (tgt := 81) C D_Mo_drive_15 (by decide) ?_ ?_
  · refine g_sub [0, 1, 2, 3, 4] rfl ?_
    exact hk1 _
  · refine g_aload_n C D_Mo_drive_18 rfl 0 rfl ?_
    refine g_iload C D_Mo_drive_19 4 rfl ?_
    refine g_iload C D_Mo_drive_21 5 rfl ?_
    refine g_callVi (ci := 7) C [.inl p4, .inl v5] [] (Or.inl rfl) rfl (fun _ h1 h2 h3 => c_Mo_find h1 h2 h3) rfl rfl wc_7_190 (by decide) (Nat.le_of_ble_eq_true rfl) D_Mo_drive_23 (fun s1 a2 => ?_)
    refine g_istore (L' := [(6, .inl a2), (0, .inr (.inr 0)), (1, .inl p1), (2, .inl p2), (3, .inl p3), (4, .inl p4), (5, .inl v5)]) C D_Mo_drive_26 (by decide) rfl ?_
    refine g_iload C D_Mo_drive_28 0 rfl ?_
    refine g_bipush C D_Mo_drive_30 (by decide) ⟨by decide, by decide⟩ ?_
    refine g_icmp_eq (tgt := 75) C D_Mo_drive_32 (by decide) ?_ ?_
    · refine g_sub [1, 2, 3, 4, 5, 6] rfl ?_
      exact wj_Mo_drive_75 C hk1 hrec _ _
    · refine g_aload_n C D_Mo_drive_35 rfl 1 rfl ?_
      refine g_getr (ci := 7) C 10 rfl kI7 rfl (by decide) rfl rfl wf_7_32 D_Mo_drive_36 ?_
      refine g_iload C D_Mo_drive_39 0 rfl ?_
      refine g_zald C rfl rfl rfl D_Mo_drive_41 ?_
      refine g_if_eq (tgt := 66) C D_Mo_drive_42 (by decide) ?_ ?_
      · refine g_sub [1, 2, 3, 4, 5, 6, 0] rfl ?_
        exact wj_Mo_drive_66 C hk1 hrec _ _ _
      · refine g_iload_n C D_Mo_drive_45 rfl 4 rfl ?_
        refine g_if_eq (tgt := 60) C D_Mo_drive_46 (by decide) ?_ ?_
        · refine g_aload_n C D_Mo_drive_60 rfl 1 rfl ?_
          refine g_iload C D_Mo_drive_61 0 rfl ?_
          refine g_callVv (ci := 7) C [.inl a2] [] rfl rfl (fun _ h1 h2 h3 => c_Mo_writeLine h1 h2 h3) rfl rfl wc_7_171 (by decide) (Nat.le_of_ble_eq_true rfl) D_Mo_drive_63 (fun s3 _ => ?_)
          refine g_sub [1, 2, 3, 4, 5, 6, 0] rfl ?_
          exact wj_Mo_drive_66 C hk1 hrec _ _ _
        · refine g_aload_n C D_Mo_drive_49 rfl 1 rfl ?_
          refine g_iload C D_Mo_drive_50 0 rfl ?_
          refine g_bipush C D_Mo_drive_52 (by decide) ⟨by decide, by decide⟩ ?_
          refine g_callVv (ci := 7) C [.inl a2, .inl 6] [] rfl rfl (fun _ h1 h2 h3 => c_Mo_store h1 h2 h3) rfl rfl wc_7_183 (by decide) (Nat.le_of_ble_eq_true rfl) D_Mo_drive_54 (fun s4 _ => ?_)
          refine g_goto (tgt := 66) C D_Mo_drive_57 (by decide) ?_
          refine g_sub [1, 2, 3, 4, 5, 6, 0] rfl ?_
          exact wj_Mo_drive_66 C hk1 hrec _ _ _
def l_Mo_drive_3 (k1 : gM → gO) (p1 p2 p3 : Int) (rec : gM → Int → gO) (σ : gM) (v4 : Int) : gO :=
  if v4 < 2 then
  (gl1 (l_Mo_drive_12 (fun s1 => ga (v4 + 1) fun a2 =>
  rec s1 a2) p1 p2 p3 v4) 200 σ p1)
  else
  (k1 σ)
set_option maxHeartbeats 4000000 in
theorem wl_Mo_drive_3 {X : gX} (C : gC gctM prog_9_method_33_code kR7 7 4 90 (none) X) {p1 p2 p3 : Int} {k1 : gM → gO} (hk1 : ∀ (σ : gM), GG gctM X 87 [(0, .inr (.inr 0)), (1, .inl p1), (2, .inl p2)] [] σ (k1 σ)) : ∀ (n : Nat) (σ : gM) (a0 : Int), GG gctM X 3 [(0, .inr (.inr 0)), (1, .inl p1), (2, .inl p2), (3, .inl p3), (4, .inl a0)] [] σ (gl1 (l_Mo_drive_3 k1 p1 p2 p3) n σ a0) := by
  refine gl1_run (P := fun σ a0 o => GG gctM X 3 [(0, .inr (.inr 0)), (1, .inl p1), (2, .inl p2), (3, .inl p3), (4, .inl a0)] [] σ o) (fun _ _ => g_none) (fun rec hrec σ v4 => ?_)
  unfold l_Mo_drive_3
  refine g_iload C D_Mo_drive_3 4 rfl ?_
  refine g_iconst C D_Mo_drive_5 ⟨by decide, by decide⟩ ?_
  refine g_icmp_ge (tgt := 87) C D_Mo_drive_6 (by decide) ?_ ?_
  · refine g_sub [0, 1, 2] rfl ?_
    exact hk1 _
  · refine g_iload_n C D_Mo_drive_9 rfl 1 rfl ?_
    refine g_istore (L' := [(5, .inl p1), (0, .inr (.inr 0)), (1, .inl p1), (2, .inl p2), (3, .inl p3), (4, .inl v4)]) C D_Mo_drive_10 (by decide) rfl ?_
    refine g_sub [1, 2, 3, 4, 5, 0] rfl ?_
    exact wl_Mo_drive_12 C (fun s1 => by
        refine g_iinc (t := 4) (L' := fun z => [(4, .inl z), (0, .inr (.inr 0)), (1, .inl p1), (2, .inl p2), (3, .inl p3)]) C D_Mo_drive_81 rfl (by decide) (fun _ => rfl) (fun a2 => ?_)
        refine g_goto (tgt := 3) C D_Mo_drive_84 (by decide) ?_
        refine g_sub [1, 2, 3, 4, 0] rfl ?_
        exact hrec _ _) 200 _ _
def l_Mo_drive_90 (p2 : Int) (rec : gM → Int → gO) (σ : gM) (v4 : Int) : gO :=
  if p2 < v4 then
  (some (σ, 0))
  else
  (gk (F_Mo_forget σ v4) fun s1 _ =>
  ga (v4 + 1) fun a2 =>
  rec s1 a2)
set_option maxHeartbeats 4000000 in
theorem wl_Mo_drive_90 {X : gX} (C : gC gctM prog_9_method_33_code kR7 7 4 90 (none) X) {p2 : Int} : ∀ (n : Nat) (σ : gM) (a0 : Int), GG gctM X 90 [(0, .inr (.inr 0)), (2, .inl p2), (4, .inl a0)] [] σ (gl1 (l_Mo_drive_90 p2) n σ a0) := by
  refine gl1_run (P := fun σ a0 o => GG gctM X 90 [(0, .inr (.inr 0)), (2, .inl p2), (4, .inl a0)] [] σ o) (fun _ _ => g_none) (fun rec hrec σ v4 => ?_)
  unfold l_Mo_drive_90
  refine g_iload C D_Mo_drive_90 2 rfl ?_
  refine g_iload_n C D_Mo_drive_92 rfl 1 rfl ?_
  refine g_icmp_gt (tgt := 108) C D_Mo_drive_93 (by decide) ?_ ?_
  · exact g_vret C D_Mo_drive_108
  · refine g_aload_n C D_Mo_drive_96 rfl 0 rfl ?_
    refine g_iload C D_Mo_drive_97 2 rfl ?_
    refine g_callVv (ci := 7) C [.inl v4] [] rfl rfl (fun _ h1 h2 h3 => c_Mo_forget h1 h2 h3) rfl rfl wc_7_209 (by decide) (Nat.le_of_ble_eq_true rfl) D_Mo_drive_99 (fun s1 _ => ?_)
    refine g_iinc (t := 2) (L' := fun z => [(4, .inl z), (0, .inr (.inr 0)), (2, .inl p2)]) C D_Mo_drive_102 rfl (by decide) (fun _ => rfl) (fun a2 => ?_)
    refine g_goto (tgt := 90) C D_Mo_drive_105 (by decide) ?_
    refine g_sub [1, 2, 0] rfl ?_
    exact hrec _ _
def F_Mo_drive (σ : gM) (v1 v2 v3 : Int) : gO :=
  gl1 (l_Mo_drive_3 (fun s1 => gl1 (l_Mo_drive_90 v2) 200 s1 v1) v1 v2 v3) 200 σ 0
set_option maxHeartbeats 4000000 in
theorem w_Mo_drive {X : gX} (C : gC gctM prog_9_method_33_code kR7 7 4 90 (none) X) (σ : gM) (v1 v2 v3 : Int) : GG gctM X 0 [(0, .inr (.inr 0)), (1, .inl v1), (2, .inl v2), (3, .inl v3)] [] σ (F_Mo_drive σ v1 v2 v3) := by
  unfold F_Mo_drive
  refine g_iconst C D_Mo_drive_0 ⟨by decide, by decide⟩ ?_
  refine g_istore (L' := [(4, .inl 0), (0, .inr (.inr 0)), (1, .inl v1), (2, .inl v2), (3, .inl v3)]) C D_Mo_drive_1 (by decide) rfl ?_
  refine g_sub [1, 2, 3, 4, 0] rfl ?_
  exact wl_Mo_drive_3 C (fun s1 => by
      refine g_iload_n C D_Mo_drive_87 rfl 1 rfl ?_
      refine g_istore (L' := [(4, .inl v1), (0, .inr (.inr 0)), (1, .inl v1), (2, .inl v2)]) C D_Mo_drive_88 (by decide) rfl ?_
      refine g_sub [1, 3, 0] rfl ?_
      exact wl_Mo_drive_90 C 200 _ _) 200 _ _
theorem c_Mo_drive {σ : gM} {v1 v2 v3 : Int} {r : gR} (ho : F_Mo_drive σ v1 v2 v3 = some r) (hok : gOk [.inr (.inr 0), .inl v1, .inl v2, .inl v3]) (hin : gIn gctM σ) : gCt gctM Y_Mo_drive prog_9_method_33_code 7 (none) 4 90 [.inr (.inr 0), .inl v1, .inl v2, .inl v3] σ r := g_entry (by decide) rfl (Nat.le_of_ble_eq_true rfl) ho hok hin (fun X C => w_Mo_drive C σ v1 v2 v3)
theorem D_Mo_lines_0 : decode prog_9_method_34_code 0 = .ok (.iload_n 1, 1) := by decide +kernel
theorem D_Mo_lines_1 : decode prog_9_method_34_code 1 = .ok (.iconst 1, 1) := by decide +kernel
theorem D_Mo_lines_2 : decode prog_9_method_34_code 2 = .ok (.if_icmp .eq 13, 3) := by decide +kernel
theorem D_Mo_lines_5 : decode prog_9_method_34_code 5 = .ok (.iload_n 1, 1) := by decide +kernel
theorem D_Mo_lines_6 : decode prog_9_method_34_code 6 = .ok (.iconst 2, 1) := by decide +kernel
theorem D_Mo_lines_7 : decode prog_9_method_34_code 7 = .ok (.if_icmp .eq 8, 3) := by decide +kernel
theorem D_Mo_lines_10 : decode prog_9_method_34_code 10 = .ok (.iload_n 1, 1) := by decide +kernel
theorem D_Mo_lines_11 : decode prog_9_method_34_code 11 = .ok (.iconst 4, 1) := by decide +kernel
theorem D_Mo_lines_12 : decode prog_9_method_34_code 12 = .ok (.if_icmp .ne 12, 3) := by decide +kernel
theorem D_Mo_lines_15 : decode prog_9_method_34_code 15 = .ok (.iload_n 2, 1) := by decide +kernel
theorem D_Mo_lines_16 : decode prog_9_method_34_code 16 = .ok (.iconst 1, 1) := by decide +kernel
theorem D_Mo_lines_17 : decode prog_9_method_34_code 17 = .ok (.iconst 4, 1) := by decide +kernel
theorem D_Mo_lines_18 : decode prog_9_method_34_code 18 = .ok (.invokestatic 147, 3) := by decide +kernel
theorem D_Mo_lines_21 : decode prog_9_method_34_code 21 = .ok (.ifCond .ne 5, 3) := by decide +kernel
theorem D_Mo_lines_24 : decode prog_9_method_34_code 24 = .ok (.iconst (-1), 1) := by decide +kernel
theorem D_Mo_lines_25 : decode prog_9_method_34_code 25 = .ok (.ireturn, 1) := by decide +kernel
theorem D_Mo_lines_26 : decode prog_9_method_34_code 26 = .ok (.aload_n 0, 1) := by decide +kernel
theorem D_Mo_lines_27 : decode prog_9_method_34_code 27 = .ok (.iconst 0, 1) := by decide +kernel
theorem D_Mo_lines_28 : decode prog_9_method_34_code 28 = .ok (.bipush 63, 2) := by decide +kernel
theorem D_Mo_lines_30 : decode prog_9_method_34_code 30 = .ok (.iconst 0, 1) := by decide +kernel
theorem D_Mo_lines_31 : decode prog_9_method_34_code 31 = .ok (.invokevirtual 212, 3) := by decide +kernel
theorem D_Mo_lines_34 : decode prog_9_method_34_code 34 = .ok (.aload_n 0, 1) := by decide +kernel
theorem D_Mo_lines_35 : decode prog_9_method_34_code 35 = .ok (.iload_n 1, 1) := by decide +kernel
theorem D_Mo_lines_36 : decode prog_9_method_34_code 36 = .ok (.putfield 19, 3) := by decide +kernel
theorem D_Mo_lines_39 : decode prog_9_method_34_code 39 = .ok (.aload_n 0, 1) := by decide +kernel
theorem D_Mo_lines_40 : decode prog_9_method_34_code 40 = .ok (.iload_n 2, 1) := by decide +kernel
theorem D_Mo_lines_41 : decode prog_9_method_34_code 41 = .ok (.putfield 23, 3) := by decide +kernel
theorem D_Mo_lines_44 : decode prog_9_method_34_code 44 = .ok (.iload_n 1, 1) := by decide +kernel
theorem D_Mo_lines_45 : decode prog_9_method_34_code 45 = .ok (.iload_n 2, 1) := by decide +kernel
theorem D_Mo_lines_46 : decode prog_9_method_34_code 46 = .ok (.imul, 1) := by decide +kernel
theorem D_Mo_lines_47 : decode prog_9_method_34_code 47 = .ok (.ireturn, 1) := by decide +kernel
def j_Mo_lines_24 (σ : gM) : gO :=
  some (σ, (-1))
set_option maxHeartbeats 4000000 in
theorem wj_Mo_lines_24 {X : gX} (C : gC gctM prog_9_method_34_code kR7 3 5 116 (some .int) X) (σ : gM) : GG gctM X 24 [] [] σ (j_Mo_lines_24 σ) := by
  unfold j_Mo_lines_24
  refine g_iconst C D_Mo_lines_24 ⟨by decide, by decide⟩ ?_
  exact g_iret C D_Mo_lines_25
def j_Mo_lines_15 (σ : gM) (v1 v2 : Int) : gO :=
  gk (F_Mo_in σ v2 1 4) fun s1 a2 =>
  if a2 = 0 then
  (j_Mo_lines_24 s1)
  else
  (gk (F_Mo_drive s1 0 63 0) fun s3 _ =>
  gp s3 0 5 v1 fun s4 =>
  gp s4 0 6 v2 fun s5 =>
  ga (v1 * v2) fun a6 =>
  some (s5, a6))
set_option maxHeartbeats 4000000 in
theorem wj_Mo_lines_15 {X : gX} (C : gC gctM prog_9_method_34_code kR7 3 5 116 (some .int) X) (σ : gM) (v1 v2 : Int) : GG gctM X 15 [(0, .inr (.inr 0)), (1, .inl v1), (2, .inl v2)] [] σ (j_Mo_lines_15 σ v1 v2) := by
  unfold j_Mo_lines_15
  refine g_iload_n C D_Mo_lines_15 rfl 2 rfl ?_
  refine g_iconst C D_Mo_lines_16 ⟨by decide, by decide⟩ ?_
  refine g_iconst C D_Mo_lines_17 ⟨by decide, by decide⟩ ?_
  refine g_callSi C [.inl v2, .inl 1, .inl 4] [] (Or.inr rfl) rfl (fun _ h1 h2 h3 => c_Mo_in h1 h2 h3) wc_7_147 (by decide) (Nat.le_of_ble_eq_true rfl) D_Mo_lines_18 (fun s1 a2 => ?_)
  refine g_if_ne (tgt := 26) C D_Mo_lines_21 (by decide) ?_ ?_
  · refine g_aload_n C D_Mo_lines_26 rfl 0 rfl ?_
    refine g_iconst C D_Mo_lines_27 ⟨by decide, by decide⟩ ?_
    refine g_bipush C D_Mo_lines_28 (by decide) ⟨by decide, by decide⟩ ?_
    refine g_iconst C D_Mo_lines_30 ⟨by decide, by decide⟩ ?_
    refine g_callVv (ci := 7) C [.inl 0, .inl 63, .inl 0] [] rfl rfl (fun _ h1 h2 h3 => c_Mo_drive h1 h2 h3) rfl rfl wc_7_212 (by decide) (Nat.le_of_ble_eq_true rfl) D_Mo_lines_31 (fun s3 _ => ?_)
    refine g_aload_n C D_Mo_lines_34 rfl 0 rfl ?_
    refine g_iload_n C D_Mo_lines_35 rfl 1 rfl ?_
    refine g_putI (ci := 7) C 5 (jz := 5) rfl rfl kI7 kO7 kN7 rfl (by decide) rfl rfl wf_7_19 D_Mo_lines_36 (fun s4 => ?_)
    refine g_aload_n C D_Mo_lines_39 rfl 0 rfl ?_
    refine g_iload_n C D_Mo_lines_40 rfl 2 rfl ?_
    refine g_putI (ci := 7) C 6 (jz := 6) rfl rfl kI7 kO7 kN7 rfl (by decide) rfl rfl wf_7_23 D_Mo_lines_41 (fun s5 => ?_)
    refine g_iload_n C D_Mo_lines_44 rfl 1 rfl ?_
    refine g_iload_n C D_Mo_lines_45 rfl 2 rfl ?_
    refine g_imul C D_Mo_lines_46 (fun a6 => ?_)
    exact g_iret C D_Mo_lines_47
  · refine g_sub [] rfl ?_
    exact wj_Mo_lines_24 C _
def F_Mo_lines (σ : gM) (v1 v2 : Int) : gO :=
  if v1 = 1 then
  (j_Mo_lines_15 σ v1 v2)
  else
  (if v1 = 2 then
  (j_Mo_lines_15 σ v1 v2)
  else
  (if v1 = 4 then
  (j_Mo_lines_15 σ v1 v2)
  else
  (j_Mo_lines_24 σ)))
set_option maxHeartbeats 4000000 in
theorem w_Mo_lines {X : gX} (C : gC gctM prog_9_method_34_code kR7 3 5 116 (some .int) X) (σ : gM) (v1 v2 : Int) : GG gctM X 0 [(0, .inr (.inr 0)), (1, .inl v1), (2, .inl v2)] [] σ (F_Mo_lines σ v1 v2) := by
  unfold F_Mo_lines
  refine g_iload_n C D_Mo_lines_0 rfl 1 rfl ?_
  refine g_iconst C D_Mo_lines_1 ⟨by decide, by decide⟩ ?_
  refine g_icmp_eq (tgt := 15) C D_Mo_lines_2 (by decide) ?_ ?_
  · exact wj_Mo_lines_15 C _ _ _
  · refine g_iload_n C D_Mo_lines_5 rfl 1 rfl ?_
    refine g_iconst C D_Mo_lines_6 ⟨by decide, by decide⟩ ?_
    refine g_icmp_eq (tgt := 15) C D_Mo_lines_7 (by decide) ?_ ?_
    · exact wj_Mo_lines_15 C _ _ _
    · refine g_iload_n C D_Mo_lines_10 rfl 1 rfl ?_
      refine g_iconst C D_Mo_lines_11 ⟨by decide, by decide⟩ ?_
      refine g_icmp_ne (tgt := 24) C D_Mo_lines_12 (by decide) ?_ ?_
      · refine g_sub [] rfl ?_
        exact wj_Mo_lines_24 C _
      · exact wj_Mo_lines_15 C _ _ _
theorem c_Mo_lines {σ : gM} {v1 v2 : Int} {r : gR} (ho : F_Mo_lines σ v1 v2 = some r) (hok : gOk [.inr (.inr 0), .inl v1, .inl v2]) (hin : gIn gctM σ) : gCt gctM Y_Mo_lines prog_9_method_34_code 3 (some .int) 5 116 [.inr (.inr 0), .inl v1, .inl v2] σ r := g_entry (by decide) rfl (Nat.le_of_ble_eq_true rfl) ho hok hin (fun X C => w_Mo_lines C σ v1 v2)
theorem D_Mo_rule_0 : decode prog_9_method_35_code 0 = .ok (.iload_n 1, 1) := by decide +kernel
theorem D_Mo_rule_1 : decode prog_9_method_35_code 1 = .ok (.iconst 0, 1) := by decide +kernel
theorem D_Mo_rule_2 : decode prog_9_method_35_code 2 = .ok (.iconst 3, 1) := by decide +kernel
theorem D_Mo_rule_3 : decode prog_9_method_35_code 3 = .ok (.invokestatic 147, 3) := by decide +kernel
theorem D_Mo_rule_6 : decode prog_9_method_35_code 6 = .ok (.ifCond .eq 25, 3) := by decide +kernel
theorem D_Mo_rule_9 : decode prog_9_method_35_code 9 = .ok (.iload_n 2, 1) := by decide +kernel
theorem D_Mo_rule_10 : decode prog_9_method_35_code 10 = .ok (.iconst 0, 1) := by decide +kernel
theorem D_Mo_rule_11 : decode prog_9_method_35_code 11 = .ok (.iload_n 1, 1) := by decide +kernel
theorem D_Mo_rule_12 : decode prog_9_method_35_code 12 = .ok (.ifCond .eq 8, 3) := by decide +kernel
theorem D_Mo_rule_15 : decode prog_9_method_35_code 15 = .ok (.iload_n 1, 1) := by decide +kernel
theorem D_Mo_rule_16 : decode prog_9_method_35_code 16 = .ok (.iconst 2, 1) := by decide +kernel
theorem D_Mo_rule_17 : decode prog_9_method_35_code 17 = .ok (.if_icmp .ne 7, 3) := by decide +kernel
theorem D_Mo_rule_20 : decode prog_9_method_35_code 20 = .ok (.iconst 2, 1) := by decide +kernel
theorem D_Mo_rule_21 : decode prog_9_method_35_code 21 = .ok (.goto 4, 3) := by decide +kernel
theorem D_Mo_rule_24 : decode prog_9_method_35_code 24 = .ok (.iconst 1, 1) := by decide +kernel
theorem D_Mo_rule_25 : decode prog_9_method_35_code 25 = .ok (.invokestatic 147, 3) := by decide +kernel
theorem D_Mo_rule_28 : decode prog_9_method_35_code 28 = .ok (.ifCond .ne 5, 3) := by decide +kernel
theorem D_Mo_rule_31 : decode prog_9_method_35_code 31 = .ok (.iconst (-1), 1) := by decide +kernel
theorem D_Mo_rule_32 : decode prog_9_method_35_code 32 = .ok (.ireturn, 1) := by decide +kernel
theorem D_Mo_rule_33 : decode prog_9_method_35_code 33 = .ok (.iload_n 1, 1) := by decide +kernel
theorem D_Mo_rule_34 : decode prog_9_method_35_code 34 = .ok (.tableswitch 65 0 2 #[26, 39, 52], 26) := by decide +kernel
theorem D_Mo_rule_60 : decode prog_9_method_35_code 60 = .ok (.aload_n 0, 1) := by decide +kernel
theorem D_Mo_rule_61 : decode prog_9_method_35_code 61 = .ok (.getfield 180, 3) := by decide +kernel
theorem D_Mo_rule_64 : decode prog_9_method_35_code 64 = .ok (.istore_n 3, 1) := by decide +kernel
theorem D_Mo_rule_65 : decode prog_9_method_35_code 65 = .ok (.aload_n 0, 1) := by decide +kernel
theorem D_Mo_rule_66 : decode prog_9_method_35_code 66 = .ok (.iload_n 2, 1) := by decide +kernel
theorem D_Mo_rule_67 : decode prog_9_method_35_code 67 = .ok (.putfield 180, 3) := by decide +kernel
theorem D_Mo_rule_70 : decode prog_9_method_35_code 70 = .ok (.goto 39, 3) := by decide +kernel
theorem D_Mo_rule_73 : decode prog_9_method_35_code 73 = .ok (.aload_n 0, 1) := by decide +kernel
theorem D_Mo_rule_74 : decode prog_9_method_35_code 74 = .ok (.getfield 26, 3) := by decide +kernel
theorem D_Mo_rule_77 : decode prog_9_method_35_code 77 = .ok (.istore_n 3, 1) := by decide +kernel
theorem D_Mo_rule_78 : decode prog_9_method_35_code 78 = .ok (.aload_n 0, 1) := by decide +kernel
theorem D_Mo_rule_79 : decode prog_9_method_35_code 79 = .ok (.iload_n 2, 1) := by decide +kernel
theorem D_Mo_rule_80 : decode prog_9_method_35_code 80 = .ok (.putfield 26, 3) := by decide +kernel
theorem D_Mo_rule_83 : decode prog_9_method_35_code 83 = .ok (.goto 26, 3) := by decide +kernel
theorem D_Mo_rule_86 : decode prog_9_method_35_code 86 = .ok (.aload_n 0, 1) := by decide +kernel
theorem D_Mo_rule_87 : decode prog_9_method_35_code 87 = .ok (.getfield 216, 3) := by decide +kernel
theorem D_Mo_rule_90 : decode prog_9_method_35_code 90 = .ok (.istore_n 3, 1) := by decide +kernel
theorem D_Mo_rule_91 : decode prog_9_method_35_code 91 = .ok (.aload_n 0, 1) := by decide +kernel
theorem D_Mo_rule_92 : decode prog_9_method_35_code 92 = .ok (.iload_n 2, 1) := by decide +kernel
theorem D_Mo_rule_93 : decode prog_9_method_35_code 93 = .ok (.putfield 216, 3) := by decide +kernel
theorem D_Mo_rule_96 : decode prog_9_method_35_code 96 = .ok (.goto 13, 3) := by decide +kernel
theorem D_Mo_rule_99 : decode prog_9_method_35_code 99 = .ok (.aload_n 0, 1) := by decide +kernel
theorem D_Mo_rule_100 : decode prog_9_method_35_code 100 = .ok (.getfield 219, 3) := by decide +kernel
theorem D_Mo_rule_103 : decode prog_9_method_35_code 103 = .ok (.istore_n 3, 1) := by decide +kernel
theorem D_Mo_rule_104 : decode prog_9_method_35_code 104 = .ok (.aload_n 0, 1) := by decide +kernel
theorem D_Mo_rule_105 : decode prog_9_method_35_code 105 = .ok (.iload_n 2, 1) := by decide +kernel
theorem D_Mo_rule_106 : decode prog_9_method_35_code 106 = .ok (.putfield 219, 3) := by decide +kernel
theorem D_Mo_rule_109 : decode prog_9_method_35_code 109 = .ok (.iload_n 3, 1) := by decide +kernel
theorem D_Mo_rule_110 : decode prog_9_method_35_code 110 = .ok (.ireturn, 1) := by decide +kernel
def j_Mo_rule_31 (σ : gM) : gO :=
  some (σ, (-1))
set_option maxHeartbeats 4000000 in
theorem wj_Mo_rule_31 {X : gX} (C : gC gctM prog_9_method_35_code kR7 4 1 22 (some .int) X) (σ : gM) : GG gctM X 31 [] [] σ (j_Mo_rule_31 σ) := by
  unfold j_Mo_rule_31
  refine g_iconst C D_Mo_rule_31 ⟨by decide, by decide⟩ ?_
  exact g_iret C D_Mo_rule_32
def j_Mo_rule_109 (σ : gM) (v3 : Int) : gO :=
  some (σ, v3)
set_option maxHeartbeats 4000000 in
theorem wj_Mo_rule_109 {X : gX} (C : gC gctM prog_9_method_35_code kR7 4 1 22 (some .int) X) (σ : gM) (v3 : Int) : GG gctM X 109 [(3, .inl v3)] [] σ (j_Mo_rule_109 σ v3) := by
  unfold j_Mo_rule_109
  refine g_iload_n C D_Mo_rule_109 rfl 0 rfl ?_
  exact g_iret C D_Mo_rule_110
def j_Mo_rule_25 (σ : gM) (v1 v2 t0 t1 t2 : Int) : gO :=
  gk (F_Mo_in σ t2 t1 t0) fun s1 a2 =>
  if a2 = 0 then
  (j_Mo_rule_31 s1)
  else
  (if v1 = 0 then
  (gv (s1 0 7) fun a3 =>
  gp s1 0 7 v2 fun s4 =>
  j_Mo_rule_109 s4 a3)
  else if v1 = 1 then
  (gv (s1 0 8) fun a5 =>
  gp s1 0 8 v2 fun s6 =>
  j_Mo_rule_109 s6 a5)
  else if v1 = 2 then
  (gv (s1 0 20) fun a7 =>
  gp s1 0 20 v2 fun s8 =>
  j_Mo_rule_109 s8 a7)
  else (gv (s1 0 31) fun a9 =>
  gp s1 0 31 v2 fun s10 =>
  j_Mo_rule_109 s10 a9))
set_option maxHeartbeats 4000000 in
theorem wj_Mo_rule_25 {X : gX} (C : gC gctM prog_9_method_35_code kR7 4 1 22 (some .int) X) (σ : gM) (v1 v2 t0 t1 t2 : Int) : GG gctM X 25 [(0, .inr (.inr 0)), (1, .inl v1), (2, .inl v2)] [.inl t0, .inl t1, .inl t2] σ (j_Mo_rule_25 σ v1 v2 t0 t1 t2) := by
  unfold j_Mo_rule_25
  refine g_callSi C [.inl t2, .inl t1, .inl t0] [] (Or.inr rfl) rfl (fun _ h1 h2 h3 => c_Mo_in h1 h2 h3) wc_7_147 (by decide) (Nat.le_of_ble_eq_true rfl) D_Mo_rule_25 (fun s1 a2 => ?_)
  refine g_if_ne (tgt := 33) C D_Mo_rule_28 (by decide) ?_ ?_
  · refine g_iload_n C D_Mo_rule_33 rfl 1 rfl ?_
    refine g_ite _ (fun h0 => ?_) (fun h0 => ?_)
    · refine g_tabIn (v := 0) (tgt := 60) C D_Mo_rule_34 h0 ⟨by decide, by decide⟩ (by decide) (by decide) rfl (by decide) ?_
      refine g_aload_n C D_Mo_rule_60 rfl 0 rfl ?_
      refine g_get (ci := 7) C 7 (jz := 7) rfl rfl kI7 rfl (by decide) rfl rfl wf_7_180 rfl D_Mo_rule_61 ?_
      refine g_let C (fun a3 => ?_)
      refine g_istore_n (L' := [(3, .inl a3), (0, .inr (.inr 0)), (1, .inl v1), (2, .inl v2)]) C D_Mo_rule_64 rfl (by decide) rfl ?_
      refine g_aload_n C D_Mo_rule_65 rfl 1 rfl ?_
      refine g_iload_n C D_Mo_rule_66 rfl 3 rfl ?_
      refine g_putI (ci := 7) C 7 (jz := 7) rfl rfl kI7 kO7 kN7 rfl (by decide) rfl rfl wf_7_180 D_Mo_rule_67 (fun s4 => ?_)
      refine g_goto (tgt := 109) C D_Mo_rule_70 (by decide) ?_
      refine g_sub [0] rfl ?_
      exact wj_Mo_rule_109 C _ _
    refine g_ite _ (fun h1 => ?_) (fun h1 => ?_)
    · refine g_tabIn (v := 1) (tgt := 73) C D_Mo_rule_34 h1 ⟨by decide, by decide⟩ (by decide) (by decide) rfl (by decide) ?_
      refine g_aload_n C D_Mo_rule_73 rfl 0 rfl ?_
      refine g_get (ci := 7) C 8 (jz := 8) rfl rfl kI7 rfl (by decide) rfl rfl wf_7_26 rfl D_Mo_rule_74 ?_
      refine g_let C (fun a5 => ?_)
      refine g_istore_n (L' := [(3, .inl a5), (0, .inr (.inr 0)), (1, .inl v1), (2, .inl v2)]) C D_Mo_rule_77 rfl (by decide) rfl ?_
      refine g_aload_n C D_Mo_rule_78 rfl 1 rfl ?_
      refine g_iload_n C D_Mo_rule_79 rfl 3 rfl ?_
      refine g_putI (ci := 7) C 8 (jz := 8) rfl rfl kI7 kO7 kN7 rfl (by decide) rfl rfl wf_7_26 D_Mo_rule_80 (fun s6 => ?_)
      refine g_goto (tgt := 109) C D_Mo_rule_83 (by decide) ?_
      refine g_sub [0] rfl ?_
      exact wj_Mo_rule_109 C _ _
    refine g_ite _ (fun h2 => ?_) (fun h2 => ?_)
    · refine g_tabIn (v := 2) (tgt := 86) C D_Mo_rule_34 h2 ⟨by decide, by decide⟩ (by decide) (by decide) rfl (by decide) ?_
      refine g_aload_n C D_Mo_rule_86 rfl 0 rfl ?_
      refine g_get (ci := 7) C 20 (jz := 20) rfl rfl kI7 rfl (by decide) rfl rfl wf_7_216 rfl D_Mo_rule_87 ?_
      refine g_let C (fun a7 => ?_)
      refine g_istore_n (L' := [(3, .inl a7), (0, .inr (.inr 0)), (1, .inl v1), (2, .inl v2)]) C D_Mo_rule_90 rfl (by decide) rfl ?_
      refine g_aload_n C D_Mo_rule_91 rfl 1 rfl ?_
      refine g_iload_n C D_Mo_rule_92 rfl 3 rfl ?_
      refine g_putI (ci := 7) C 20 (jz := 20) rfl rfl kI7 kO7 kN7 rfl (by decide) rfl rfl wf_7_216 D_Mo_rule_93 (fun s8 => ?_)
      refine g_goto (tgt := 109) C D_Mo_rule_96 (by decide) ?_
      refine g_sub [0] rfl ?_
      exact wj_Mo_rule_109 C _ _
    refine g_tabOut (tgt := 99) C D_Mo_rule_34 (by omega) (by decide) ?_
    refine g_aload_n C D_Mo_rule_99 rfl 0 rfl ?_
    refine g_get (ci := 7) C 31 (jz := 31) rfl rfl kI7 rfl (by decide) rfl rfl wf_7_219 rfl D_Mo_rule_100 ?_
    refine g_let C (fun a9 => ?_)
    refine g_istore_n (L' := [(3, .inl a9), (0, .inr (.inr 0)), (1, .inl v1), (2, .inl v2)]) C D_Mo_rule_103 rfl (by decide) rfl ?_
    refine g_aload_n C D_Mo_rule_104 rfl 1 rfl ?_
    refine g_iload_n C D_Mo_rule_105 rfl 3 rfl ?_
    refine g_putI (ci := 7) C 31 (jz := 31) rfl rfl kI7 kO7 kN7 rfl (by decide) rfl rfl wf_7_219 D_Mo_rule_106 (fun s10 => ?_)
    refine g_sub [0] rfl ?_
    exact wj_Mo_rule_109 C _ _
  · refine g_sub [] rfl ?_
    exact wj_Mo_rule_31 C _
def j_Mo_rule_20 (σ : gM) (v1 v2 t0 t1 : Int) : gO :=
  j_Mo_rule_25 σ v1 v2 2 t0 t1
set_option maxHeartbeats 4000000 in
theorem wj_Mo_rule_20 {X : gX} (C : gC gctM prog_9_method_35_code kR7 4 1 22 (some .int) X) (σ : gM) (v1 v2 t0 t1 : Int) : GG gctM X 20 [(0, .inr (.inr 0)), (1, .inl v1), (2, .inl v2)] [.inl t0, .inl t1] σ (j_Mo_rule_20 σ v1 v2 t0 t1) := by
  unfold j_Mo_rule_20
  refine g_iconst C D_Mo_rule_20 ⟨by decide, by decide⟩ ?_
  refine g_goto (tgt := 25) C D_Mo_rule_21 (by decide) ?_
  exact wj_Mo_rule_25 C _ _ _ _ _ _
def F_Mo_rule (σ : gM) (v1 v2 : Int) : gO :=
  gk (F_Mo_in σ v1 0 3) fun s1 a2 =>
  if a2 = 0 then
  (j_Mo_rule_31 s1)
  else
  (if v1 = 0 then
  (j_Mo_rule_20 s1 v1 v2 0 v2)
  else
  (if v1 = 2 then
  (j_Mo_rule_20 s1 v1 v2 0 v2)
  else
  (j_Mo_rule_25 s1 v1 v2 1 0 v2)))
set_option maxHeartbeats 4000000 in
theorem w_Mo_rule {X : gX} (C : gC gctM prog_9_method_35_code kR7 4 1 22 (some .int) X) (σ : gM) (v1 v2 : Int) : GG gctM X 0 [(0, .inr (.inr 0)), (1, .inl v1), (2, .inl v2)] [] σ (F_Mo_rule σ v1 v2) := by
  unfold F_Mo_rule
  refine g_iload_n C D_Mo_rule_0 rfl 1 rfl ?_
  refine g_iconst C D_Mo_rule_1 ⟨by decide, by decide⟩ ?_
  refine g_iconst C D_Mo_rule_2 ⟨by decide, by decide⟩ ?_
  refine g_callSi C [.inl v1, .inl 0, .inl 3] [] (Or.inr rfl) rfl (fun _ h1 h2 h3 => c_Mo_in h1 h2 h3) wc_7_147 (by decide) (Nat.le_of_ble_eq_true rfl) D_Mo_rule_3 (fun s1 a2 => ?_)
  refine g_if_eq (tgt := 31) C D_Mo_rule_6 (by decide) ?_ ?_
  · refine g_sub [] rfl ?_
    exact wj_Mo_rule_31 C _
  · refine g_iload_n C D_Mo_rule_9 rfl 2 rfl ?_
    refine g_iconst C D_Mo_rule_10 ⟨by decide, by decide⟩ ?_
    refine g_iload_n C D_Mo_rule_11 rfl 1 rfl ?_
    refine g_if_eq (tgt := 20) C D_Mo_rule_12 (by decide) ?_ ?_
    · exact wj_Mo_rule_20 C _ _ _ _ _
    · refine g_iload_n C D_Mo_rule_15 rfl 1 rfl ?_
      refine g_iconst C D_Mo_rule_16 ⟨by decide, by decide⟩ ?_
      refine g_icmp_ne (tgt := 24) C D_Mo_rule_17 (by decide) ?_ ?_
      · refine g_iconst C D_Mo_rule_24 ⟨by decide, by decide⟩ ?_
        exact wj_Mo_rule_25 C _ _ _ _ _ _
      · exact wj_Mo_rule_20 C _ _ _ _ _
theorem c_Mo_rule {σ : gM} {v1 v2 : Int} {r : gR} (ho : F_Mo_rule σ v1 v2 = some r) (hok : gOk [.inr (.inr 0), .inl v1, .inl v2]) (hin : gIn gctM σ) : gCt gctM Y_Mo_rule prog_9_method_35_code 4 (some .int) 1 22 [.inr (.inr 0), .inl v1, .inl v2] σ r := g_entry (by decide) rfl (Nat.le_of_ble_eq_true rfl) ho hok hin (fun X C => w_Mo_rule C σ v1 v2)
theorem D_Mo_line_0 : decode prog_9_method_36_code 0 = .ok (.iload_n 1, 1) := by decide +kernel
theorem D_Mo_line_1 : decode prog_9_method_36_code 1 = .ok (.iconst 0, 1) := by decide +kernel
theorem D_Mo_line_2 : decode prog_9_method_36_code 2 = .ok (.iconst 1, 1) := by decide +kernel
theorem D_Mo_line_3 : decode prog_9_method_36_code 3 = .ok (.invokestatic 147, 3) := by decide +kernel
theorem D_Mo_line_6 : decode prog_9_method_36_code 6 = .ok (.ifCond .eq 13, 3) := by decide +kernel
theorem D_Mo_line_9 : decode prog_9_method_36_code 9 = .ok (.iload_n 2, 1) := by decide +kernel
theorem D_Mo_line_10 : decode prog_9_method_36_code 10 = .ok (.iconst 0, 1) := by decide +kernel
theorem D_Mo_line_11 : decode prog_9_method_36_code 11 = .ok (.bipush 63, 2) := by decide +kernel
theorem D_Mo_line_13 : decode prog_9_method_36_code 13 = .ok (.invokestatic 147, 3) := by decide +kernel
theorem D_Mo_line_16 : decode prog_9_method_36_code 16 = .ok (.ifCond .ne 5, 3) := by decide +kernel
theorem D_Mo_line_19 : decode prog_9_method_36_code 19 = .ok (.iconst (-1), 1) := by decide +kernel
theorem D_Mo_line_20 : decode prog_9_method_36_code 20 = .ok (.ireturn, 1) := by decide +kernel
theorem D_Mo_line_21 : decode prog_9_method_36_code 21 = .ok (.aload_n 0, 1) := by decide +kernel
theorem D_Mo_line_22 : decode prog_9_method_36_code 22 = .ok (.iload_n 1, 1) := by decide +kernel
theorem D_Mo_line_23 : decode prog_9_method_36_code 23 = .ok (.iload_n 2, 1) := by decide +kernel
theorem D_Mo_line_24 : decode prog_9_method_36_code 24 = .ok (.invokevirtual 190, 3) := by decide +kernel
theorem D_Mo_line_27 : decode prog_9_method_36_code 27 = .ok (.istore_n 3, 1) := by decide +kernel
theorem D_Mo_line_28 : decode prog_9_method_36_code 28 = .ok (.iload_n 3, 1) := by decide +kernel
theorem D_Mo_line_29 : decode prog_9_method_36_code 29 = .ok (.bipush (-4), 2) := by decide +kernel
theorem D_Mo_line_31 : decode prog_9_method_36_code 31 = .ok (.if_icmp .ne 7, 3) := by decide +kernel
theorem D_Mo_line_34 : decode prog_9_method_36_code 34 = .ok (.iconst 0, 1) := by decide +kernel
theorem D_Mo_line_35 : decode prog_9_method_36_code 35 = .ok (.goto 17, 3) := by decide +kernel
theorem D_Mo_line_38 : decode prog_9_method_36_code 38 = .ok (.aload_n 0, 1) := by decide +kernel
theorem D_Mo_line_39 : decode prog_9_method_36_code 39 = .ok (.getfield 32, 3) := by decide +kernel
theorem D_Mo_line_42 : decode prog_9_method_36_code 42 = .ok (.iload_n 3, 1) := by decide +kernel
theorem D_Mo_line_43 : decode prog_9_method_36_code 43 = .ok (.baload, 1) := by decide +kernel
theorem D_Mo_line_44 : decode prog_9_method_36_code 44 = .ok (.ifCond .eq 7, 3) := by decide +kernel
theorem D_Mo_line_47 : decode prog_9_method_36_code 47 = .ok (.iconst 2, 1) := by decide +kernel
theorem D_Mo_line_48 : decode prog_9_method_36_code 48 = .ok (.goto 4, 3) := by decide +kernel
theorem D_Mo_line_51 : decode prog_9_method_36_code 51 = .ok (.iconst 1, 1) := by decide +kernel
theorem D_Mo_line_52 : decode prog_9_method_36_code 52 = .ok (.ireturn, 1) := by decide +kernel
def j_Mo_line_19 (σ : gM) : gO :=
  some (σ, (-1))
set_option maxHeartbeats 4000000 in
theorem wj_Mo_line_19 {X : gX} (C : gC gctM prog_9_method_36_code kR7 4 1 24 (some .int) X) (σ : gM) : GG gctM X 19 [] [] σ (j_Mo_line_19 σ) := by
  unfold j_Mo_line_19
  refine g_iconst C D_Mo_line_19 ⟨by decide, by decide⟩ ?_
  exact g_iret C D_Mo_line_20
def j_Mo_line_52 (σ : gM) (t0 : Int) : gO :=
  some (σ, t0)
set_option maxHeartbeats 4000000 in
theorem wj_Mo_line_52 {X : gX} (C : gC gctM prog_9_method_36_code kR7 4 1 24 (some .int) X) (σ : gM) (t0 : Int) : GG gctM X 52 [] [.inl t0] σ (j_Mo_line_52 σ t0) := by
  unfold j_Mo_line_52
  exact g_iret C D_Mo_line_52
def F_Mo_line (σ : gM) (v1 v2 : Int) : gO :=
  gk (F_Mo_in σ v1 0 1) fun s1 a2 =>
  if a2 = 0 then
  (j_Mo_line_19 s1)
  else
  (gk (F_Mo_in s1 v2 0 63) fun s3 a4 =>
  if a4 = 0 then
  (j_Mo_line_19 s3)
  else
  (gk (F_Mo_find s3 v1 v2) fun s5 a6 =>
  if a6 = (-4) then
  (j_Mo_line_52 s5 0)
  else
  (gi a6 32 <|
  if (s5 5 a6) = 0 then
  (j_Mo_line_52 s5 1)
  else
  (j_Mo_line_52 s5 2))))
set_option maxHeartbeats 4000000 in
theorem w_Mo_line {X : gX} (C : gC gctM prog_9_method_36_code kR7 4 1 24 (some .int) X) (σ : gM) (v1 v2 : Int) : GG gctM X 0 [(0, .inr (.inr 0)), (1, .inl v1), (2, .inl v2)] [] σ (F_Mo_line σ v1 v2) := by
  unfold F_Mo_line
  refine g_iload_n C D_Mo_line_0 rfl 1 rfl ?_
  refine g_iconst C D_Mo_line_1 ⟨by decide, by decide⟩ ?_
  refine g_iconst C D_Mo_line_2 ⟨by decide, by decide⟩ ?_
  refine g_callSi C [.inl v1, .inl 0, .inl 1] [] (Or.inr rfl) rfl (fun _ h1 h2 h3 => c_Mo_in h1 h2 h3) wc_7_147 (by decide) (Nat.le_of_ble_eq_true rfl) D_Mo_line_3 (fun s1 a2 => ?_)
  refine g_if_eq (tgt := 19) C D_Mo_line_6 (by decide) ?_ ?_
  · refine g_sub [] rfl ?_
    exact wj_Mo_line_19 C _
  · refine g_iload_n C D_Mo_line_9 rfl 2 rfl ?_
    refine g_iconst C D_Mo_line_10 ⟨by decide, by decide⟩ ?_
    refine g_bipush C D_Mo_line_11 (by decide) ⟨by decide, by decide⟩ ?_
    refine g_callSi C [.inl v2, .inl 0, .inl 63] [] (Or.inr rfl) rfl (fun _ h1 h2 h3 => c_Mo_in h1 h2 h3) wc_7_147 (by decide) (Nat.le_of_ble_eq_true rfl) D_Mo_line_13 (fun s3 a4 => ?_)
    refine g_if_ne (tgt := 21) C D_Mo_line_16 (by decide) ?_ ?_
    · refine g_aload_n C D_Mo_line_21 rfl 0 rfl ?_
      refine g_iload_n C D_Mo_line_22 rfl 1 rfl ?_
      refine g_iload_n C D_Mo_line_23 rfl 2 rfl ?_
      refine g_callVi (ci := 7) C [.inl v1, .inl v2] [] (Or.inl rfl) rfl (fun _ h1 h2 h3 => c_Mo_find h1 h2 h3) rfl rfl wc_7_190 (by decide) (Nat.le_of_ble_eq_true rfl) D_Mo_line_24 (fun s5 a6 => ?_)
      refine g_istore_n (L' := [(3, .inl a6), (0, .inr (.inr 0)), (1, .inl v1), (2, .inl v2)]) C D_Mo_line_27 rfl (by decide) rfl ?_
      refine g_iload_n C D_Mo_line_28 rfl 0 rfl ?_
      refine g_bipush C D_Mo_line_29 (by decide) ⟨by decide, by decide⟩ ?_
      refine g_icmp_ne (tgt := 38) C D_Mo_line_31 (by decide) ?_ ?_
      · refine g_aload_n C D_Mo_line_38 rfl 1 rfl ?_
        refine g_getr (ci := 7) C 10 rfl kI7 rfl (by decide) rfl rfl wf_7_32 D_Mo_line_39 ?_
        refine g_iload_n C D_Mo_line_42 rfl 0 rfl ?_
        refine g_zald C rfl rfl rfl D_Mo_line_43 ?_
        refine g_if_eq (tgt := 51) C D_Mo_line_44 (by decide) ?_ ?_
        · refine g_iconst C D_Mo_line_51 ⟨by decide, by decide⟩ ?_
          refine g_sub [] rfl ?_
          exact wj_Mo_line_52 C _ _
        · refine g_iconst C D_Mo_line_47 ⟨by decide, by decide⟩ ?_
          refine g_goto (tgt := 52) C D_Mo_line_48 (by decide) ?_
          refine g_sub [] rfl ?_
          exact wj_Mo_line_52 C _ _
      · refine g_iconst C D_Mo_line_34 ⟨by decide, by decide⟩ ?_
        refine g_goto (tgt := 52) C D_Mo_line_35 (by decide) ?_
        refine g_sub [] rfl ?_
        exact wj_Mo_line_52 C _ _
    · refine g_sub [] rfl ?_
      exact wj_Mo_line_19 C _
theorem c_Mo_line {σ : gM} {v1 v2 : Int} {r : gR} (ho : F_Mo_line σ v1 v2 = some r) (hok : gOk [.inr (.inr 0), .inl v1, .inl v2]) (hin : gIn gctM σ) : gCt gctM Y_Mo_line prog_9_method_36_code 4 (some .int) 1 24 [.inr (.inr 0), .inl v1, .inl v2] σ r := g_entry (by decide) rfl (Nat.le_of_ble_eq_true rfl) ho hok hin (fun X C => w_Mo_line C σ v1 v2)
theorem D_Mo_goAway_0 : decode prog_9_method_37_code 0 = .ok (.aload_n 0, 1) := by decide +kernel
theorem D_Mo_goAway_1 : decode prog_9_method_37_code 1 = .ok (.getfield 60, 3) := by decide +kernel
theorem D_Mo_goAway_4 : decode prog_9_method_37_code 4 = .ok (.iload_n 1, 1) := by decide +kernel
theorem D_Mo_goAway_5 : decode prog_9_method_37_code 5 = .ok (.iaload, 1) := by decide +kernel
theorem D_Mo_goAway_6 : decode prog_9_method_37_code 6 = .ok (.istore_n 3, 1) := by decide +kernel
theorem D_Mo_goAway_7 : decode prog_9_method_37_code 7 = .ok (.aload_n 0, 1) := by decide +kernel
theorem D_Mo_goAway_8 : decode prog_9_method_37_code 8 = .ok (.iconst 4, 1) := by decide +kernel
theorem D_Mo_goAway_9 : decode prog_9_method_37_code 9 = .ok (.iload_n 1, 1) := by decide +kernel
theorem D_Mo_goAway_10 : decode prog_9_method_37_code 10 = .ok (.imul, 1) := by decide +kernel
theorem D_Mo_goAway_11 : decode prog_9_method_37_code 11 = .ok (.iconst 4, 1) := by decide +kernel
theorem D_Mo_goAway_12 : decode prog_9_method_37_code 12 = .ok (.iload_n 1, 1) := by decide +kernel
theorem D_Mo_goAway_13 : decode prog_9_method_37_code 13 = .ok (.imul, 1) := by decide +kernel
theorem D_Mo_goAway_14 : decode prog_9_method_37_code 14 = .ok (.iconst 3, 1) := by decide +kernel
theorem D_Mo_goAway_15 : decode prog_9_method_37_code 15 = .ok (.iadd, 1) := by decide +kernel
theorem D_Mo_goAway_16 : decode prog_9_method_37_code 16 = .ok (.iload_n 2, 1) := by decide +kernel
theorem D_Mo_goAway_17 : decode prog_9_method_37_code 17 = .ok (.invokevirtual 212, 3) := by decide +kernel
theorem D_Mo_goAway_20 : decode prog_9_method_37_code 20 = .ok (.iload_n 2, 1) := by decide +kernel
theorem D_Mo_goAway_21 : decode prog_9_method_37_code 21 = .ok (.ifCond .eq 11, 3) := by decide +kernel
theorem D_Mo_goAway_24 : decode prog_9_method_37_code 24 = .ok (.aload_n 0, 1) := by decide +kernel
theorem D_Mo_goAway_25 : decode prog_9_method_37_code 25 = .ok (.bipush 6, 2) := by decide +kernel
theorem D_Mo_goAway_27 : decode prog_9_method_37_code 27 = .ok (.bipush 20, 2) := by decide +kernel
theorem D_Mo_goAway_29 : decode prog_9_method_37_code 29 = .ok (.invokevirtual 157, 3) := by decide +kernel
theorem D_Mo_goAway_32 : decode prog_9_method_37_code 32 = .ok (.iconst 0, 1) := by decide +kernel
theorem D_Mo_goAway_33 : decode prog_9_method_37_code 33 = .ok (.istore 4, 2) := by decide +kernel
theorem D_Mo_goAway_35 : decode prog_9_method_37_code 35 = .ok (.iload 4, 2) := by decide +kernel
theorem D_Mo_goAway_37 : decode prog_9_method_37_code 37 = .ok (.bipush 32, 2) := by decide +kernel
theorem D_Mo_goAway_39 : decode prog_9_method_37_code 39 = .ok (.if_icmp .ge 32, 3) := by decide +kernel
theorem D_Mo_goAway_42 : decode prog_9_method_37_code 42 = .ok (.aload_n 0, 1) := by decide +kernel
theorem D_Mo_goAway_43 : decode prog_9_method_37_code 43 = .ok (.getfield 78, 3) := by decide +kernel
theorem D_Mo_goAway_46 : decode prog_9_method_37_code 46 = .ok (.bipush 32, 2) := by decide +kernel
theorem D_Mo_goAway_48 : decode prog_9_method_37_code 48 = .ok (.iload_n 3, 1) := by decide +kernel
theorem D_Mo_goAway_49 : decode prog_9_method_37_code 49 = .ok (.imul, 1) := by decide +kernel
theorem D_Mo_goAway_50 : decode prog_9_method_37_code 50 = .ok (.iload 4, 2) := by decide +kernel
theorem D_Mo_goAway_52 : decode prog_9_method_37_code 52 = .ok (.iadd, 1) := by decide +kernel
theorem D_Mo_goAway_53 : decode prog_9_method_37_code 53 = .ok (.aload_n 0, 1) := by decide +kernel
theorem D_Mo_goAway_54 : decode prog_9_method_37_code 54 = .ok (.bipush 32, 2) := by decide +kernel
theorem D_Mo_goAway_56 : decode prog_9_method_37_code 56 = .ok (.iload_n 1, 1) := by decide +kernel
theorem D_Mo_goAway_57 : decode prog_9_method_37_code 57 = .ok (.imul, 1) := by decide +kernel
theorem D_Mo_goAway_58 : decode prog_9_method_37_code 58 = .ok (.iload 4, 2) := by decide +kernel
theorem D_Mo_goAway_60 : decode prog_9_method_37_code 60 = .ok (.iadd, 1) := by decide +kernel
theorem D_Mo_goAway_61 : decode prog_9_method_37_code 61 = .ok (.invokevirtual 197, 3) := by decide +kernel
theorem D_Mo_goAway_64 : decode prog_9_method_37_code 64 = .ok (.iastore, 1) := by decide +kernel
theorem D_Mo_goAway_65 : decode prog_9_method_37_code 65 = .ok (.iinc 4 1, 3) := by decide +kernel
theorem D_Mo_goAway_68 : decode prog_9_method_37_code 68 = .ok (.goto (-33), 3) := by decide +kernel
theorem D_Mo_goAway_71 : decode prog_9_method_37_code 71 = .ok (.aload_n 0, 1) := by decide +kernel
theorem D_Mo_goAway_72 : decode prog_9_method_37_code 72 = .ok (.getfield 60, 3) := by decide +kernel
theorem D_Mo_goAway_75 : decode prog_9_method_37_code 75 = .ok (.iload_n 1, 1) := by decide +kernel
theorem D_Mo_goAway_76 : decode prog_9_method_37_code 76 = .ok (.bipush (-4), 2) := by decide +kernel
theorem D_Mo_goAway_78 : decode prog_9_method_37_code 78 = .ok (.iastore, 1) := by decide +kernel
theorem D_Mo_goAway_79 : decode prog_9_method_37_code 79 = .ok (.aload_n 0, 1) := by decide +kernel
theorem D_Mo_goAway_80 : decode prog_9_method_37_code 80 = .ok (.getfield 72, 3) := by decide +kernel
theorem D_Mo_goAway_83 : decode prog_9_method_37_code 83 = .ok (.iload_n 3, 1) := by decide +kernel
theorem D_Mo_goAway_84 : decode prog_9_method_37_code 84 = .ok (.bipush (-4), 2) := by decide +kernel
theorem D_Mo_goAway_86 : decode prog_9_method_37_code 86 = .ok (.iastore, 1) := by decide +kernel
theorem D_Mo_goAway_87 : decode prog_9_method_37_code 87 = .ok (.aload_n 0, 1) := by decide +kernel
theorem D_Mo_goAway_88 : decode prog_9_method_37_code 88 = .ok (.getfield 112, 3) := by decide +kernel
theorem D_Mo_goAway_91 : decode prog_9_method_37_code 91 = .ok (.bipush 7, 2) := by decide +kernel
theorem D_Mo_goAway_93 : decode prog_9_method_37_code 93 = .ok (.dup2, 1) := by decide +kernel
theorem D_Mo_goAway_94 : decode prog_9_method_37_code 94 = .ok (.iaload, 1) := by decide +kernel
theorem D_Mo_goAway_95 : decode prog_9_method_37_code 95 = .ok (.iconst 1, 1) := by decide +kernel
theorem D_Mo_goAway_96 : decode prog_9_method_37_code 96 = .ok (.iadd, 1) := by decide +kernel
theorem D_Mo_goAway_97 : decode prog_9_method_37_code 97 = .ok (.iastore, 1) := by decide +kernel
theorem D_Mo_goAway_98 : decode prog_9_method_37_code 98 = .ok (.return_, 1) := by decide +kernel
def l_Mo_goAway_35 (k1 : gM → gO) (p1 p3 : Int) (rec : gM → Int → gO) (σ : gM) (v4 : Int) : gO :=
  if v4 < 32 then
  (ga (32 * p3) fun a1 =>
  ga (a1 + v4) fun a2 =>
  ga (32 * p1) fun a3 =>
  ga (a3 + v4) fun a4 =>
  gk (F_Mo_readCell σ a4) fun s5 a6 =>
  gw s5 19 1024 a2 a6 fun s7 =>
  ga (v4 + 1) fun a8 =>
  rec s7 a8)
  else
  (k1 σ)
set_option maxHeartbeats 4000000 in
theorem wl_Mo_goAway_35 {X : gX} (C : gC gctM prog_9_method_37_code kR7 5 5 116 (none) X) {p1 p3 : Int} {k1 : gM → gO} (hk1 : ∀ (σ : gM), GG gctM X 71 [(0, .inr (.inr 0)), (1, .inl p1), (3, .inl p3)] [] σ (k1 σ)) : ∀ (n : Nat) (σ : gM) (a0 : Int), GG gctM X 35 [(0, .inr (.inr 0)), (1, .inl p1), (3, .inl p3), (4, .inl a0)] [] σ (gl1 (l_Mo_goAway_35 k1 p1 p3) n σ a0) := by
  refine gl1_run (P := fun σ a0 o => GG gctM X 35 [(0, .inr (.inr 0)), (1, .inl p1), (3, .inl p3), (4, .inl a0)] [] σ o) (fun _ _ => g_none) (fun rec hrec σ v4 => ?_)
  unfold l_Mo_goAway_35
  refine g_iload C D_Mo_goAway_35 3 rfl ?_
  refine g_bipush C D_Mo_goAway_37 (by decide) ⟨by decide, by decide⟩ ?_
  refine g_icmp_ge (tgt := 71) C D_Mo_goAway_39 (by decide) ?_ ?_
  · refine g_sub [0, 1, 2] rfl ?_
    exact hk1 _
  · refine g_aload_n C D_Mo_goAway_42 rfl 0 rfl ?_
    refine g_getr (ci := 7) C 28 rfl kI7 rfl (by decide) rfl rfl wf_7_78 D_Mo_goAway_43 ?_
    refine g_bipush C D_Mo_goAway_46 (by decide) ⟨by decide, by decide⟩ ?_
    refine g_iload_n C D_Mo_goAway_48 rfl 2 rfl ?_
    refine g_imul C D_Mo_goAway_49 (fun a1 => ?_)
    refine g_iload C D_Mo_goAway_50 3 rfl ?_
    refine g_iadd C D_Mo_goAway_52 (fun a2 => ?_)
    refine g_aload_n C D_Mo_goAway_53 rfl 0 rfl ?_
    refine g_bipush C D_Mo_goAway_54 (by decide) ⟨by decide, by decide⟩ ?_
    refine g_iload_n C D_Mo_goAway_56 rfl 1 rfl ?_
    refine g_imul C D_Mo_goAway_57 (fun a3 => ?_)
    refine g_iload C D_Mo_goAway_58 3 rfl ?_
    refine g_iadd C D_Mo_goAway_60 (fun a4 => ?_)
    refine g_callVi (ci := 7) C [.inl a4] [.inl a2, .inr (.inr 19)] (Or.inl rfl) rfl (fun _ h1 h2 h3 => c_Mo_readCell h1 h2 h3) rfl rfl wc_7_197 (by decide) (Nat.le_of_ble_eq_true rfl) D_Mo_goAway_61 (fun s5 a6 => ?_)
    refine g_iast C rfl rfl D_Mo_goAway_64 (fun s7 => ?_)
    refine g_iinc (t := 3) (L' := fun z => [(4, .inl z), (0, .inr (.inr 0)), (1, .inl p1), (3, .inl p3)]) C D_Mo_goAway_65 rfl (by decide) (fun _ => rfl) (fun a8 => ?_)
    refine g_goto (tgt := 35) C D_Mo_goAway_68 (by decide) ?_
    refine g_sub [1, 2, 3, 0] rfl ?_
    exact hrec _ _
def j_Mo_goAway_32 (σ : gM) (v1 v3 : Int) : gO :=
  gl1 (l_Mo_goAway_35 (fun s1 => gw s1 13 16 v1 (-4) fun s2 =>
  gw s2 17 32 v3 (-4) fun s3 =>
  gi 7 16 <|
  ga ((s3 30 7) + 1) fun a4 =>
  gw s3 30 16 7 a4 fun s5 =>
  some (s5, 0)) v1 v3) 200 σ 0
set_option maxHeartbeats 4000000 in
theorem wj_Mo_goAway_32 {X : gX} (C : gC gctM prog_9_method_37_code kR7 5 5 116 (none) X) (σ : gM) (v1 v3 : Int) : GG gctM X 32 [(0, .inr (.inr 0)), (1, .inl v1), (3, .inl v3)] [] σ (j_Mo_goAway_32 σ v1 v3) := by
  unfold j_Mo_goAway_32
  refine g_iconst C D_Mo_goAway_32 ⟨by decide, by decide⟩ ?_
  refine g_istore (L' := [(4, .inl 0), (0, .inr (.inr 0)), (1, .inl v1), (3, .inl v3)]) C D_Mo_goAway_33 (by decide) rfl ?_
  refine g_sub [1, 2, 3, 0] rfl ?_
  exact wl_Mo_goAway_35 C (fun s1 => by
      refine g_aload_n C D_Mo_goAway_71 rfl 0 rfl ?_
      refine g_getr (ci := 7) C 22 rfl kI7 rfl (by decide) rfl rfl wf_7_60 D_Mo_goAway_72 ?_
      refine g_iload_n C D_Mo_goAway_75 rfl 1 rfl ?_
      refine g_bipush C D_Mo_goAway_76 (by decide) ⟨by decide, by decide⟩ ?_
      refine g_iast C rfl rfl D_Mo_goAway_78 (fun s2 => ?_)
      refine g_aload_n C D_Mo_goAway_79 rfl 0 rfl ?_
      refine g_getr (ci := 7) C 26 rfl kI7 rfl (by decide) rfl rfl wf_7_72 D_Mo_goAway_80 ?_
      refine g_iload_n C D_Mo_goAway_83 rfl 2 rfl ?_
      refine g_bipush C D_Mo_goAway_84 (by decide) ⟨by decide, by decide⟩ ?_
      refine g_iast C rfl rfl D_Mo_goAway_86 (fun s3 => ?_)
      refine g_aload_n C D_Mo_goAway_87 rfl 0 rfl ?_
      refine g_getr (ci := 7) C 42 rfl kI7 rfl (by decide) rfl rfl wf_7_112 D_Mo_goAway_88 ?_
      refine g_bipush C D_Mo_goAway_91 (by decide) ⟨by decide, by decide⟩ ?_
      refine g_dup2 C D_Mo_goAway_93 rfl rfl ?_
      refine g_iald C rfl rfl rfl D_Mo_goAway_94 ?_
      refine g_iconst C D_Mo_goAway_95 ⟨by decide, by decide⟩ ?_
      refine g_iadd C D_Mo_goAway_96 (fun a4 => ?_)
      refine g_iast C rfl rfl D_Mo_goAway_97 (fun s5 => ?_)
      exact g_vret C D_Mo_goAway_98) 200 _ _
def F_Mo_goAway (σ : gM) (v1 v2 : Int) : gO :=
  gi v1 16 <|
  gv (σ 13 v1) fun a1 =>
  ga (4 * v1) fun a2 =>
  ga (4 * v1) fun a3 =>
  ga (a3 + 3) fun a4 =>
  gk (F_Mo_drive σ a2 a4 v2) fun s5 _ =>
  if v2 = 0 then
  (j_Mo_goAway_32 s5 v1 a1)
  else
  (gk (F_Mo_tick s5 6 20) fun s6 _ =>
  j_Mo_goAway_32 s6 v1 a1)
set_option maxHeartbeats 4000000 in
theorem w_Mo_goAway {X : gX} (C : gC gctM prog_9_method_37_code kR7 5 5 116 (none) X) (σ : gM) (v1 v2 : Int) : GG gctM X 0 [(0, .inr (.inr 0)), (1, .inl v1), (2, .inl v2)] [] σ (F_Mo_goAway σ v1 v2) := by
  unfold F_Mo_goAway
  refine g_aload_n C D_Mo_goAway_0 rfl 0 rfl ?_
  refine g_getr (ci := 7) C 22 rfl kI7 rfl (by decide) rfl rfl wf_7_60 D_Mo_goAway_1 ?_
  refine g_iload_n C D_Mo_goAway_4 rfl 1 rfl ?_
  refine g_iald C rfl rfl rfl D_Mo_goAway_5 ?_
  refine g_let C (fun a1 => ?_)
  refine g_istore_n (L' := [(3, .inl a1), (0, .inr (.inr 0)), (1, .inl v1), (2, .inl v2)]) C D_Mo_goAway_6 rfl (by decide) rfl ?_
  refine g_aload_n C D_Mo_goAway_7 rfl 1 rfl ?_
  refine g_iconst C D_Mo_goAway_8 ⟨by decide, by decide⟩ ?_
  refine g_iload_n C D_Mo_goAway_9 rfl 2 rfl ?_
  refine g_imul C D_Mo_goAway_10 (fun a2 => ?_)
  refine g_iconst C D_Mo_goAway_11 ⟨by decide, by decide⟩ ?_
  refine g_iload_n C D_Mo_goAway_12 rfl 2 rfl ?_
  refine g_imul C D_Mo_goAway_13 (fun a3 => ?_)
  refine g_iconst C D_Mo_goAway_14 ⟨by decide, by decide⟩ ?_
  refine g_iadd C D_Mo_goAway_15 (fun a4 => ?_)
  refine g_iload_n C D_Mo_goAway_16 rfl 3 rfl ?_
  refine g_callVv (ci := 7) C [.inl a2, .inl a4, .inl v2] [] rfl rfl (fun _ h1 h2 h3 => c_Mo_drive h1 h2 h3) rfl rfl wc_7_212 (by decide) (Nat.le_of_ble_eq_true rfl) D_Mo_goAway_17 (fun s5 _ => ?_)
  refine g_iload_n C D_Mo_goAway_20 rfl 3 rfl ?_
  refine g_if_eq (tgt := 32) C D_Mo_goAway_21 (by decide) ?_ ?_
  · refine g_sub [1, 2, 0] rfl ?_
    exact wj_Mo_goAway_32 C _ _ _
  · refine g_aload_n C D_Mo_goAway_24 rfl 1 rfl ?_
    refine g_bipush C D_Mo_goAway_25 (by decide) ⟨by decide, by decide⟩ ?_
    refine g_bipush C D_Mo_goAway_27 (by decide) ⟨by decide, by decide⟩ ?_
    refine g_callVv (ci := 7) C [.inl 6, .inl 20] [] rfl rfl (fun _ h1 h2 h3 => c_Mo_tick h1 h2 h3) rfl rfl wc_7_157 (by decide) (Nat.le_of_ble_eq_true rfl) D_Mo_goAway_29 (fun s6 _ => ?_)
    refine g_sub [1, 2, 0] rfl ?_
    exact wj_Mo_goAway_32 C _ _ _
theorem c_Mo_goAway {σ : gM} {v1 v2 : Int} {r : gR} (ho : F_Mo_goAway σ v1 v2 = some r) (hok : gOk [.inr (.inr 0), .inl v1, .inl v2]) (hin : gIn gctM σ) : gCt gctM Y_Mo_goAway prog_9_method_37_code 5 (none) 5 116 [.inr (.inr 0), .inl v1, .inl v2] σ r := g_entry (by decide) rfl (Nat.le_of_ble_eq_true rfl) ho hok hin (fun X C => w_Mo_goAway C σ v1 v2)
theorem D_Mo_whoGoes_0 : decode prog_9_method_38_code 0 = .ok (.aload_n 0, 1) := by decide +kernel
theorem D_Mo_whoGoes_1 : decode prog_9_method_38_code 1 = .ok (.getfield 216, 3) := by decide +kernel
theorem D_Mo_whoGoes_4 : decode prog_9_method_38_code 4 = .ok (.iconst 2, 1) := by decide +kernel
theorem D_Mo_whoGoes_5 : decode prog_9_method_38_code 5 = .ok (.if_icmp .ne 65, 3) := by decide +kernel
theorem D_Mo_whoGoes_8 : decode prog_9_method_38_code 8 = .ok (.aload_n 0, 1) := by decide +kernel
theorem D_Mo_whoGoes_9 : decode prog_9_method_38_code 9 = .ok (.getfield 63, 3) := by decide +kernel
theorem D_Mo_whoGoes_12 : decode prog_9_method_38_code 12 = .ok (.aload_n 0, 1) := by decide +kernel
theorem D_Mo_whoGoes_13 : decode prog_9_method_38_code 13 = .ok (.getfield 222, 3) := by decide +kernel
theorem D_Mo_whoGoes_16 : decode prog_9_method_38_code 16 = .ok (.baload, 1) := by decide +kernel
theorem D_Mo_whoGoes_17 : decode prog_9_method_38_code 17 = .ok (.ifCond .eq 31, 3) := by decide +kernel
theorem D_Mo_whoGoes_20 : decode prog_9_method_38_code 20 = .ok (.aload_n 0, 1) := by decide +kernel
theorem D_Mo_whoGoes_21 : decode prog_9_method_38_code 21 = .ok (.getfield 63, 3) := by decide +kernel
theorem D_Mo_whoGoes_24 : decode prog_9_method_38_code 24 = .ok (.aload_n 0, 1) := by decide +kernel
theorem D_Mo_whoGoes_25 : decode prog_9_method_38_code 25 = .ok (.getfield 222, 3) := by decide +kernel
theorem D_Mo_whoGoes_28 : decode prog_9_method_38_code 28 = .ok (.iconst 0, 1) := by decide +kernel
theorem D_Mo_whoGoes_29 : decode prog_9_method_38_code 29 = .ok (.bastore, 1) := by decide +kernel
theorem D_Mo_whoGoes_30 : decode prog_9_method_38_code 30 = .ok (.aload_n 0, 1) := by decide +kernel
theorem D_Mo_whoGoes_31 : decode prog_9_method_38_code 31 = .ok (.aload_n 0, 1) := by decide +kernel
theorem D_Mo_whoGoes_32 : decode prog_9_method_38_code 32 = .ok (.getfield 222, 3) := by decide +kernel
theorem D_Mo_whoGoes_35 : decode prog_9_method_38_code 35 = .ok (.iconst 1, 1) := by decide +kernel
theorem D_Mo_whoGoes_36 : decode prog_9_method_38_code 36 = .ok (.iadd, 1) := by decide +kernel
theorem D_Mo_whoGoes_37 : decode prog_9_method_38_code 37 = .ok (.aload_n 0, 1) := by decide +kernel
theorem D_Mo_whoGoes_38 : decode prog_9_method_38_code 38 = .ok (.getfield 57, 3) := by decide +kernel
theorem D_Mo_whoGoes_41 : decode prog_9_method_38_code 41 = .ok (.irem, 1) := by decide +kernel
theorem D_Mo_whoGoes_42 : decode prog_9_method_38_code 42 = .ok (.putfield 222, 3) := by decide +kernel
theorem D_Mo_whoGoes_45 : decode prog_9_method_38_code 45 = .ok (.goto (-37), 3) := by decide +kernel
theorem D_Mo_whoGoes_48 : decode prog_9_method_38_code 48 = .ok (.aload_n 0, 1) := by decide +kernel
theorem D_Mo_whoGoes_49 : decode prog_9_method_38_code 49 = .ok (.getfield 222, 3) := by decide +kernel
theorem D_Mo_whoGoes_52 : decode prog_9_method_38_code 52 = .ok (.istore_n 1, 1) := by decide +kernel
theorem D_Mo_whoGoes_53 : decode prog_9_method_38_code 53 = .ok (.aload_n 0, 1) := by decide +kernel
theorem D_Mo_whoGoes_54 : decode prog_9_method_38_code 54 = .ok (.aload_n 0, 1) := by decide +kernel
theorem D_Mo_whoGoes_55 : decode prog_9_method_38_code 55 = .ok (.getfield 222, 3) := by decide +kernel
theorem D_Mo_whoGoes_58 : decode prog_9_method_38_code 58 = .ok (.iconst 1, 1) := by decide +kernel
theorem D_Mo_whoGoes_59 : decode prog_9_method_38_code 59 = .ok (.iadd, 1) := by decide +kernel
theorem D_Mo_whoGoes_60 : decode prog_9_method_38_code 60 = .ok (.aload_n 0, 1) := by decide +kernel
theorem D_Mo_whoGoes_61 : decode prog_9_method_38_code 61 = .ok (.getfield 57, 3) := by decide +kernel
theorem D_Mo_whoGoes_64 : decode prog_9_method_38_code 64 = .ok (.irem, 1) := by decide +kernel
theorem D_Mo_whoGoes_65 : decode prog_9_method_38_code 65 = .ok (.putfield 222, 3) := by decide +kernel
theorem D_Mo_whoGoes_68 : decode prog_9_method_38_code 68 = .ok (.iload_n 1, 1) := by decide +kernel
theorem D_Mo_whoGoes_69 : decode prog_9_method_38_code 69 = .ok (.ireturn, 1) := by decide +kernel
theorem D_Mo_whoGoes_70 : decode prog_9_method_38_code 70 = .ok (.iconst 0, 1) := by decide +kernel
theorem D_Mo_whoGoes_71 : decode prog_9_method_38_code 71 = .ok (.istore_n 1, 1) := by decide +kernel
theorem D_Mo_whoGoes_72 : decode prog_9_method_38_code 72 = .ok (.iconst 1, 1) := by decide +kernel
theorem D_Mo_whoGoes_73 : decode prog_9_method_38_code 73 = .ok (.istore_n 2, 1) := by decide +kernel
theorem D_Mo_whoGoes_74 : decode prog_9_method_38_code 74 = .ok (.iload_n 2, 1) := by decide +kernel
theorem D_Mo_whoGoes_75 : decode prog_9_method_38_code 75 = .ok (.aload_n 0, 1) := by decide +kernel
theorem D_Mo_whoGoes_76 : decode prog_9_method_38_code 76 = .ok (.getfield 57, 3) := by decide +kernel
theorem D_Mo_whoGoes_79 : decode prog_9_method_38_code 79 = .ok (.if_icmp .ge 70, 3) := by decide +kernel
theorem D_Mo_whoGoes_82 : decode prog_9_method_38_code 82 = .ok (.aload_n 0, 1) := by decide +kernel
theorem D_Mo_whoGoes_83 : decode prog_9_method_38_code 83 = .ok (.getfield 216, 3) := by decide +kernel
theorem D_Mo_whoGoes_86 : decode prog_9_method_38_code 86 = .ok (.ifCond .ne 26, 3) := by decide +kernel
theorem D_Mo_whoGoes_89 : decode prog_9_method_38_code 89 = .ok (.aload_n 0, 1) := by decide +kernel
theorem D_Mo_whoGoes_90 : decode prog_9_method_38_code 90 = .ok (.getfield 66, 3) := by decide +kernel
theorem D_Mo_whoGoes_93 : decode prog_9_method_38_code 93 = .ok (.iload_n 2, 1) := by decide +kernel
theorem D_Mo_whoGoes_94 : decode prog_9_method_38_code 94 = .ok (.iaload, 1) := by decide +kernel
theorem D_Mo_whoGoes_95 : decode prog_9_method_38_code 95 = .ok (.aload_n 0, 1) := by decide +kernel
theorem D_Mo_whoGoes_96 : decode prog_9_method_38_code 96 = .ok (.getfield 66, 3) := by decide +kernel
theorem D_Mo_whoGoes_99 : decode prog_9_method_38_code 99 = .ok (.iload_n 1, 1) := by decide +kernel
theorem D_Mo_whoGoes_100 : decode prog_9_method_38_code 100 = .ok (.iaload, 1) := by decide +kernel
theorem D_Mo_whoGoes_101 : decode prog_9_method_38_code 101 = .ok (.if_icmp .ge 7, 3) := by decide +kernel
theorem D_Mo_whoGoes_104 : decode prog_9_method_38_code 104 = .ok (.iconst 1, 1) := by decide +kernel
theorem D_Mo_whoGoes_105 : decode prog_9_method_38_code 105 = .ok (.goto 27, 3) := by decide +kernel
theorem D_Mo_whoGoes_108 : decode prog_9_method_38_code 108 = .ok (.iconst 0, 1) := by decide +kernel
theorem D_Mo_whoGoes_109 : decode prog_9_method_38_code 109 = .ok (.goto 23, 3) := by decide +kernel
theorem D_Mo_whoGoes_112 : decode prog_9_method_38_code 112 = .ok (.aload_n 0, 1) := by decide +kernel
theorem D_Mo_whoGoes_113 : decode prog_9_method_38_code 113 = .ok (.getfield 69, 3) := by decide +kernel
theorem D_Mo_whoGoes_116 : decode prog_9_method_38_code 116 = .ok (.iload_n 2, 1) := by decide +kernel
theorem D_Mo_whoGoes_117 : decode prog_9_method_38_code 117 = .ok (.iaload, 1) := by decide +kernel
theorem D_Mo_whoGoes_118 : decode prog_9_method_38_code 118 = .ok (.aload_n 0, 1) := by decide +kernel
theorem D_Mo_whoGoes_119 : decode prog_9_method_38_code 119 = .ok (.getfield 69, 3) := by decide +kernel
theorem D_Mo_whoGoes_122 : decode prog_9_method_38_code 122 = .ok (.iload_n 1, 1) := by decide +kernel
theorem D_Mo_whoGoes_123 : decode prog_9_method_38_code 123 = .ok (.iaload, 1) := by decide +kernel
theorem D_Mo_whoGoes_124 : decode prog_9_method_38_code 124 = .ok (.if_icmp .ge 7, 3) := by decide +kernel
theorem D_Mo_whoGoes_127 : decode prog_9_method_38_code 127 = .ok (.iconst 1, 1) := by decide +kernel
theorem D_Mo_whoGoes_128 : decode prog_9_method_38_code 128 = .ok (.goto 4, 3) := by decide +kernel
theorem D_Mo_whoGoes_131 : decode prog_9_method_38_code 131 = .ok (.iconst 0, 1) := by decide +kernel
theorem D_Mo_whoGoes_132 : decode prog_9_method_38_code 132 = .ok (.istore_n 3, 1) := by decide +kernel
theorem D_Mo_whoGoes_133 : decode prog_9_method_38_code 133 = .ok (.iload_n 3, 1) := by decide +kernel
theorem D_Mo_whoGoes_134 : decode prog_9_method_38_code 134 = .ok (.ifCond .eq 7, 3) := by decide +kernel
theorem D_Mo_whoGoes_137 : decode prog_9_method_38_code 137 = .ok (.iload_n 2, 1) := by decide +kernel
theorem D_Mo_whoGoes_138 : decode prog_9_method_38_code 138 = .ok (.goto 4, 3) := by decide +kernel
theorem D_Mo_whoGoes_141 : decode prog_9_method_38_code 141 = .ok (.iload_n 1, 1) := by decide +kernel
theorem D_Mo_whoGoes_142 : decode prog_9_method_38_code 142 = .ok (.istore_n 1, 1) := by decide +kernel
theorem D_Mo_whoGoes_143 : decode prog_9_method_38_code 143 = .ok (.iinc 2 1, 3) := by decide +kernel
theorem D_Mo_whoGoes_146 : decode prog_9_method_38_code 146 = .ok (.goto (-72), 3) := by decide +kernel
theorem D_Mo_whoGoes_149 : decode prog_9_method_38_code 149 = .ok (.iload_n 1, 1) := by decide +kernel
theorem D_Mo_whoGoes_150 : decode prog_9_method_38_code 150 = .ok (.ireturn, 1) := by decide +kernel
def j_Mo_whoGoes_142 (rec : gM → Int → Int → gO) (σ : gM) (v2 t0 : Int) : gO :=
  ga (v2 + 1) fun a1 =>
  rec σ t0 a1
set_option maxHeartbeats 4000000 in
theorem wj_Mo_whoGoes_142 {X : gX} (C : gC gctM prog_9_method_38_code kR7 4 0 0 (some .int) X) {rec : gM → Int → Int → gO} (hrec : ∀ (σ : gM) (a0 a1 : Int), GG gctM X 74 [(0, .inr (.inr 0)), (1, .inl a0), (2, .inl a1)] [] σ (rec σ a0 a1)) (σ : gM) (v2 t0 : Int) : GG gctM X 142 [(0, .inr (.inr 0)), (2, .inl v2)] [.inl t0] σ (j_Mo_whoGoes_142 rec σ v2 t0) := by
  unfold j_Mo_whoGoes_142
  refine g_istore_n (L' := [(1, .inl t0), (0, .inr (.inr 0)), (2, .inl v2)]) C D_Mo_whoGoes_142 rfl (by decide) rfl ?_
  refine g_iinc (t := 2) (L' := fun z => [(2, .inl z), (1, .inl t0), (0, .inr (.inr 0))]) C D_Mo_whoGoes_143 rfl (by decide) (fun _ => rfl) (fun a1 => ?_)
  refine g_goto (tgt := 74) C D_Mo_whoGoes_146 (by decide) ?_
  refine g_sub [2, 1, 0] rfl ?_
  exact hrec _ _ _
def j_Mo_whoGoes_132 (rec : gM → Int → Int → gO) (σ : gM) (v1 v2 t0 : Int) : gO :=
  if t0 = 0 then
  (j_Mo_whoGoes_142 rec σ v2 v1)
  else
  (j_Mo_whoGoes_142 rec σ v2 v2)
set_option maxHeartbeats 4000000 in
theorem wj_Mo_whoGoes_132 {X : gX} (C : gC gctM prog_9_method_38_code kR7 4 0 0 (some .int) X) {rec : gM → Int → Int → gO} (hrec : ∀ (σ : gM) (a0 a1 : Int), GG gctM X 74 [(0, .inr (.inr 0)), (1, .inl a0), (2, .inl a1)] [] σ (rec σ a0 a1)) (σ : gM) (v1 v2 t0 : Int) : GG gctM X 132 [(0, .inr (.inr 0)), (1, .inl v1), (2, .inl v2)] [.inl t0] σ (j_Mo_whoGoes_132 rec σ v1 v2 t0) := by
  unfold j_Mo_whoGoes_132
  refine g_istore_n (L' := [(3, .inl t0), (0, .inr (.inr 0)), (1, .inl v1), (2, .inl v2)]) C D_Mo_whoGoes_132 rfl (by decide) rfl ?_
  refine g_iload_n C D_Mo_whoGoes_133 rfl 0 rfl ?_
  refine g_if_eq (tgt := 141) C D_Mo_whoGoes_134 (by decide) ?_ ?_
  · refine g_iload_n C D_Mo_whoGoes_141 rfl 2 rfl ?_
    refine g_sub [1, 3] rfl ?_
    exact wj_Mo_whoGoes_142 C hrec _ _ _
  · refine g_iload_n C D_Mo_whoGoes_137 rfl 3 rfl ?_
    refine g_goto (tgt := 142) C D_Mo_whoGoes_138 (by decide) ?_
    refine g_sub [1, 3] rfl ?_
    exact wj_Mo_whoGoes_142 C hrec _ _ _
def l_Mo_whoGoes_74 (rec : gM → Int → Int → gO) (σ : gM) (v1 v2 : Int) : gO :=
  if v2 < (σ 0 19) then
  (if (σ 0 20) = 0 then
  (gi v2 16 <|
  gi v1 16 <|
  if (σ 15 v2) < (σ 15 v1) then
  (j_Mo_whoGoes_132 rec σ v1 v2 1)
  else
  (j_Mo_whoGoes_132 rec σ v1 v2 0))
  else
  (gi v2 16 <|
  gi v1 16 <|
  if (σ 16 v2) < (σ 16 v1) then
  (j_Mo_whoGoes_132 rec σ v1 v2 1)
  else
  (j_Mo_whoGoes_132 rec σ v1 v2 0)))
  else
  (some (σ, v1))
set_option maxHeartbeats 4000000 in
theorem wl_Mo_whoGoes_74 {X : gX} (C : gC gctM prog_9_method_38_code kR7 4 0 0 (some .int) X) : ∀ (n : Nat) (σ : gM) (a0 a1 : Int), GG gctM X 74 [(0, .inr (.inr 0)), (1, .inl a0), (2, .inl a1)] [] σ (gl2 (l_Mo_whoGoes_74) n σ a0 a1) := by
  refine gl2_run (P := fun σ a0 a1 o => GG gctM X 74 [(0, .inr (.inr 0)), (1, .inl a0), (2, .inl a1)] [] σ o) (fun _ _ _ => g_none) (fun rec hrec σ v1 v2 => ?_)
  unfold l_Mo_whoGoes_74
  refine g_iload_n C D_Mo_whoGoes_74 rfl 2 rfl ?_
  refine g_aload_n C D_Mo_whoGoes_75 rfl 0 rfl ?_
  refine g_get (ci := 7) C 19 (jz := 19) rfl rfl kI7 rfl (by decide) rfl rfl wf_7_57 rfl D_Mo_whoGoes_76 ?_
  refine g_icmp_ge (tgt := 149) C D_Mo_whoGoes_79 (by decide) ?_ ?_
  · refine g_iload_n C D_Mo_whoGoes_149 rfl 1 rfl ?_
    exact g_iret C D_Mo_whoGoes_150
  · refine g_aload_n C D_Mo_whoGoes_82 rfl 0 rfl ?_
    refine g_get (ci := 7) C 20 (jz := 20) rfl rfl kI7 rfl (by decide) rfl rfl wf_7_216 rfl D_Mo_whoGoes_83 ?_
    refine g_if_ne (tgt := 112) C D_Mo_whoGoes_86 (by decide) ?_ ?_
    · refine g_aload_n C D_Mo_whoGoes_112 rfl 0 rfl ?_
      refine g_getr (ci := 7) C 25 rfl kI7 rfl (by decide) rfl rfl wf_7_69 D_Mo_whoGoes_113 ?_
      refine g_iload_n C D_Mo_whoGoes_116 rfl 2 rfl ?_
      refine g_iald C rfl rfl rfl D_Mo_whoGoes_117 ?_
      refine g_aload_n C D_Mo_whoGoes_118 rfl 0 rfl ?_
      refine g_getr (ci := 7) C 25 rfl kI7 rfl (by decide) rfl rfl wf_7_69 D_Mo_whoGoes_119 ?_
      refine g_iload_n C D_Mo_whoGoes_122 rfl 1 rfl ?_
      refine g_iald C rfl rfl rfl D_Mo_whoGoes_123 ?_
      refine g_icmp_ge (tgt := 131) C D_Mo_whoGoes_124 (by decide) ?_ ?_
      · refine g_iconst C D_Mo_whoGoes_131 ⟨by decide, by decide⟩ ?_
        exact wj_Mo_whoGoes_132 C hrec _ _ _ _
      · refine g_iconst C D_Mo_whoGoes_127 ⟨by decide, by decide⟩ ?_
        refine g_goto (tgt := 132) C D_Mo_whoGoes_128 (by decide) ?_
        exact wj_Mo_whoGoes_132 C hrec _ _ _ _
    · refine g_aload_n C D_Mo_whoGoes_89 rfl 0 rfl ?_
      refine g_getr (ci := 7) C 24 rfl kI7 rfl (by decide) rfl rfl wf_7_66 D_Mo_whoGoes_90 ?_
      refine g_iload_n C D_Mo_whoGoes_93 rfl 2 rfl ?_
      refine g_iald C rfl rfl rfl D_Mo_whoGoes_94 ?_
      refine g_aload_n C D_Mo_whoGoes_95 rfl 0 rfl ?_
      refine g_getr (ci := 7) C 24 rfl kI7 rfl (by decide) rfl rfl wf_7_66 D_Mo_whoGoes_96 ?_
      refine g_iload_n C D_Mo_whoGoes_99 rfl 1 rfl ?_
      refine g_iald C rfl rfl rfl D_Mo_whoGoes_100 ?_
      refine g_icmp_ge (tgt := 108) C D_Mo_whoGoes_101 (by decide) ?_ ?_
      · refine g_iconst C D_Mo_whoGoes_108 ⟨by decide, by decide⟩ ?_
        refine g_goto (tgt := 132) C D_Mo_whoGoes_109 (by decide) ?_
        exact wj_Mo_whoGoes_132 C hrec _ _ _ _
      · refine g_iconst C D_Mo_whoGoes_104 ⟨by decide, by decide⟩ ?_
        refine g_goto (tgt := 132) C D_Mo_whoGoes_105 (by decide) ?_
        exact wj_Mo_whoGoes_132 C hrec _ _ _ _
def l_Mo_whoGoes_8 (k1 : gM → gO) (rec : gM → gO) (σ : gM) : gO :=
  gi (σ 0 21) 16 <|
  if (σ 14 (σ 0 21)) = 0 then
  (k1 σ)
  else
  (gwb σ 14 16 (σ 0 21) 0 fun s1 =>
  ga ((s1 0 21) + 1) fun a2 =>
  gd a2 (s1 0 19) <|
  gp s1 0 21 (a2 % (s1 0 19)) fun s3 =>
  rec s3)
set_option maxHeartbeats 4000000 in
theorem wl_Mo_whoGoes_8 {X : gX} (C : gC gctM prog_9_method_38_code kR7 4 0 0 (some .int) X) {k1 : gM → gO} (hk1 : ∀ (σ : gM), GG gctM X 48 [(0, .inr (.inr 0))] [] σ (k1 σ)) : ∀ (n : Nat) (σ : gM), GG gctM X 8 [(0, .inr (.inr 0))] [] σ (gl0 (l_Mo_whoGoes_8 k1) n σ) := by
  refine gl0_run (P := fun σ  o => GG gctM X 8 [(0, .inr (.inr 0))] [] σ o) (fun _  => g_none) (fun rec hrec σ  => ?_)
  unfold l_Mo_whoGoes_8
  refine g_aload_n C D_Mo_whoGoes_8 rfl 0 rfl ?_
  refine g_getr (ci := 7) C 23 rfl kI7 rfl (by decide) rfl rfl wf_7_63 D_Mo_whoGoes_9 ?_
  refine g_aload_n C D_Mo_whoGoes_12 rfl 0 rfl ?_
  refine g_get (ci := 7) C 21 (jz := 21) rfl rfl kI7 rfl (by decide) rfl rfl wf_7_222 rfl D_Mo_whoGoes_13 ?_
  refine g_zald C rfl rfl rfl D_Mo_whoGoes_16 ?_
  refine g_if_eq (tgt := 48) C D_Mo_whoGoes_17 (by decide) ?_ ?_
  · exact hk1 _
  · refine g_aload_n C D_Mo_whoGoes_20 rfl 0 rfl ?_
    refine g_getr (ci := 7) C 23 rfl kI7 rfl (by decide) rfl rfl wf_7_63 D_Mo_whoGoes_21 ?_
    refine g_aload_n C D_Mo_whoGoes_24 rfl 0 rfl ?_
    refine g_get (ci := 7) C 21 (jz := 21) rfl rfl kI7 rfl (by decide) rfl rfl wf_7_222 rfl D_Mo_whoGoes_25 ?_
    refine g_iconst C D_Mo_whoGoes_28 ⟨by decide, by decide⟩ ?_
    refine g_zast C rfl rfl D_Mo_whoGoes_29 (fun s1 => ?_)
    refine g_aload_n C D_Mo_whoGoes_30 rfl 0 rfl ?_
    refine g_aload_n C D_Mo_whoGoes_31 rfl 0 rfl ?_
    refine g_get (ci := 7) C 21 (jz := 21) rfl rfl kI7 rfl (by decide) rfl rfl wf_7_222 rfl D_Mo_whoGoes_32 ?_
    refine g_iconst C D_Mo_whoGoes_35 ⟨by decide, by decide⟩ ?_
    refine g_iadd C D_Mo_whoGoes_36 (fun a2 => ?_)
    refine g_aload_n C D_Mo_whoGoes_37 rfl 0 rfl ?_
    refine g_get (ci := 7) C 19 (jz := 19) rfl rfl kI7 rfl (by decide) rfl rfl wf_7_57 rfl D_Mo_whoGoes_38 ?_
    refine g_irem C D_Mo_whoGoes_41 ?_
    refine g_putI (ci := 7) C 21 (jz := 21) rfl rfl kI7 kO7 kN7 rfl (by decide) rfl rfl wf_7_222 D_Mo_whoGoes_42 (fun s3 => ?_)
    refine g_goto (tgt := 8) C D_Mo_whoGoes_45 (by decide) ?_
    exact hrec _
def F_Mo_whoGoes (σ : gM) : gO :=
  if (σ 0 20) = 2 then
  (gl0 (l_Mo_whoGoes_8 (fun s1 => gv (s1 0 21) fun a2 =>
  ga ((s1 0 21) + 1) fun a3 =>
  gd a3 (s1 0 19) <|
  gp s1 0 21 (a3 % (s1 0 19)) fun s4 =>
  some (s4, a2))) 200 σ)
  else
  (gl2 (l_Mo_whoGoes_74) 200 σ 0 1)
set_option maxHeartbeats 4000000 in
theorem w_Mo_whoGoes {X : gX} (C : gC gctM prog_9_method_38_code kR7 4 0 0 (some .int) X) (σ : gM) : GG gctM X 0 [(0, .inr (.inr 0))] [] σ (F_Mo_whoGoes σ) := by
  unfold F_Mo_whoGoes
  refine g_aload_n C D_Mo_whoGoes_0 rfl 0 rfl ?_
  refine g_get (ci := 7) C 20 (jz := 20) rfl rfl kI7 rfl (by decide) rfl rfl wf_7_216 rfl D_Mo_whoGoes_1 ?_
  refine g_iconst C D_Mo_whoGoes_4 ⟨by decide, by decide⟩ ?_
  refine g_icmp_ne (tgt := 70) C D_Mo_whoGoes_5 (by decide) ?_ ?_
  · refine g_iconst C D_Mo_whoGoes_70 ⟨by decide, by decide⟩ ?_
    refine g_istore_n (L' := [(1, .inl 0), (0, .inr (.inr 0))]) C D_Mo_whoGoes_71 rfl (by decide) rfl ?_
    refine g_iconst C D_Mo_whoGoes_72 ⟨by decide, by decide⟩ ?_
    refine g_istore_n (L' := [(2, .inl 1), (1, .inl 0), (0, .inr (.inr 0))]) C D_Mo_whoGoes_73 rfl (by decide) rfl ?_
    refine g_sub [2, 1, 0] rfl ?_
    exact wl_Mo_whoGoes_74 C 200 _ _ _
  · exact wl_Mo_whoGoes_8 C (fun s1 => by
        refine g_aload_n C D_Mo_whoGoes_48 rfl 0 rfl ?_
        refine g_get (ci := 7) C 21 (jz := 21) rfl rfl kI7 rfl (by decide) rfl rfl wf_7_222 rfl D_Mo_whoGoes_49 ?_
        refine g_let C (fun a2 => ?_)
        refine g_istore_n (L' := [(1, .inl a2), (0, .inr (.inr 0))]) C D_Mo_whoGoes_52 rfl (by decide) rfl ?_
        refine g_aload_n C D_Mo_whoGoes_53 rfl 1 rfl ?_
        refine g_aload_n C D_Mo_whoGoes_54 rfl 1 rfl ?_
        refine g_get (ci := 7) C 21 (jz := 21) rfl rfl kI7 rfl (by decide) rfl rfl wf_7_222 rfl D_Mo_whoGoes_55 ?_
        refine g_iconst C D_Mo_whoGoes_58 ⟨by decide, by decide⟩ ?_
        refine g_iadd C D_Mo_whoGoes_59 (fun a3 => ?_)
        refine g_aload_n C D_Mo_whoGoes_60 rfl 1 rfl ?_
        refine g_get (ci := 7) C 19 (jz := 19) rfl rfl kI7 rfl (by decide) rfl rfl wf_7_57 rfl D_Mo_whoGoes_61 ?_
        refine g_irem C D_Mo_whoGoes_64 ?_
        refine g_putI (ci := 7) C 21 (jz := 21) rfl rfl kI7 kO7 kN7 rfl (by decide) rfl rfl wf_7_222 D_Mo_whoGoes_65 (fun s4 => ?_)
        refine g_iload_n C D_Mo_whoGoes_68 rfl 0 rfl ?_
        exact g_iret C D_Mo_whoGoes_69) 200 _
theorem c_Mo_whoGoes {σ : gM} {r : gR} (ho : F_Mo_whoGoes σ = some r) (hok : gOk [.inr (.inr 0)]) (hin : gIn gctM σ) : gCt gctM Y_Mo_whoGoes prog_9_method_38_code 4 (some .int) 0 0 [.inr (.inr 0)] σ r := g_entry (by decide) rfl (Nat.le_of_ble_eq_true rfl) ho hok hin (fun X C => w_Mo_whoGoes C σ)
theorem D_Mo_freeFrame_0 : decode prog_9_method_39_code 0 = .ok (.iconst 0, 1) := by decide +kernel
theorem D_Mo_freeFrame_1 : decode prog_9_method_39_code 1 = .ok (.istore_n 1, 1) := by decide +kernel
theorem D_Mo_freeFrame_2 : decode prog_9_method_39_code 2 = .ok (.iload_n 1, 1) := by decide +kernel
theorem D_Mo_freeFrame_3 : decode prog_9_method_39_code 3 = .ok (.aload_n 0, 1) := by decide +kernel
theorem D_Mo_freeFrame_4 : decode prog_9_method_39_code 4 = .ok (.getfield 57, 3) := by decide +kernel
theorem D_Mo_freeFrame_7 : decode prog_9_method_39_code 7 = .ok (.if_icmp .ge 22, 3) := by decide +kernel
theorem D_Mo_freeFrame_10 : decode prog_9_method_39_code 10 = .ok (.aload_n 0, 1) := by decide +kernel
theorem D_Mo_freeFrame_11 : decode prog_9_method_39_code 11 = .ok (.getfield 60, 3) := by decide +kernel
theorem D_Mo_freeFrame_14 : decode prog_9_method_39_code 14 = .ok (.iload_n 1, 1) := by decide +kernel
theorem D_Mo_freeFrame_15 : decode prog_9_method_39_code 15 = .ok (.iaload, 1) := by decide +kernel
theorem D_Mo_freeFrame_16 : decode prog_9_method_39_code 16 = .ok (.bipush (-4), 2) := by decide +kernel
theorem D_Mo_freeFrame_18 : decode prog_9_method_39_code 18 = .ok (.if_icmp .ne 5, 3) := by decide +kernel
theorem D_Mo_freeFrame_21 : decode prog_9_method_39_code 21 = .ok (.iload_n 1, 1) := by decide +kernel
theorem D_Mo_freeFrame_22 : decode prog_9_method_39_code 22 = .ok (.ireturn, 1) := by decide +kernel
theorem D_Mo_freeFrame_23 : decode prog_9_method_39_code 23 = .ok (.iinc 1 1, 3) := by decide +kernel
theorem D_Mo_freeFrame_26 : decode prog_9_method_39_code 26 = .ok (.goto (-24), 3) := by decide +kernel
theorem D_Mo_freeFrame_29 : decode prog_9_method_39_code 29 = .ok (.bipush (-4), 2) := by decide +kernel
theorem D_Mo_freeFrame_31 : decode prog_9_method_39_code 31 = .ok (.ireturn, 1) := by decide +kernel
def l_Mo_freeFrame_2 (rec : gM → Int → gO) (σ : gM) (v1 : Int) : gO :=
  if v1 < (σ 0 19) then
  (gi v1 16 <|
  if (σ 13 v1) = (-4) then
  (some (σ, v1))
  else
  (ga (v1 + 1) fun a1 =>
  rec σ a1))
  else
  (some (σ, (-4)))
set_option maxHeartbeats 4000000 in
theorem wl_Mo_freeFrame_2 {X : gX} (C : gC gctM prog_9_method_39_code kR7 2 0 0 (some .int) X) : ∀ (n : Nat) (σ : gM) (a0 : Int), GG gctM X 2 [(0, .inr (.inr 0)), (1, .inl a0)] [] σ (gl1 (l_Mo_freeFrame_2) n σ a0) := by
  refine gl1_run (P := fun σ a0 o => GG gctM X 2 [(0, .inr (.inr 0)), (1, .inl a0)] [] σ o) (fun _ _ => g_none) (fun rec hrec σ v1 => ?_)
  unfold l_Mo_freeFrame_2
  refine g_iload_n C D_Mo_freeFrame_2 rfl 1 rfl ?_
  refine g_aload_n C D_Mo_freeFrame_3 rfl 0 rfl ?_
  refine g_get (ci := 7) C 19 (jz := 19) rfl rfl kI7 rfl (by decide) rfl rfl wf_7_57 rfl D_Mo_freeFrame_4 ?_
  refine g_icmp_ge (tgt := 29) C D_Mo_freeFrame_7 (by decide) ?_ ?_
  · refine g_bipush C D_Mo_freeFrame_29 (by decide) ⟨by decide, by decide⟩ ?_
    exact g_iret C D_Mo_freeFrame_31
  · refine g_aload_n C D_Mo_freeFrame_10 rfl 0 rfl ?_
    refine g_getr (ci := 7) C 22 rfl kI7 rfl (by decide) rfl rfl wf_7_60 D_Mo_freeFrame_11 ?_
    refine g_iload_n C D_Mo_freeFrame_14 rfl 1 rfl ?_
    refine g_iald C rfl rfl rfl D_Mo_freeFrame_15 ?_
    refine g_bipush C D_Mo_freeFrame_16 (by decide) ⟨by decide, by decide⟩ ?_
    refine g_icmp_ne (tgt := 23) C D_Mo_freeFrame_18 (by decide) ?_ ?_
    · refine g_iinc (t := 1) (L' := fun z => [(1, .inl z), (0, .inr (.inr 0))]) C D_Mo_freeFrame_23 rfl (by decide) (fun _ => rfl) (fun a1 => ?_)
      refine g_goto (tgt := 2) C D_Mo_freeFrame_26 (by decide) ?_
      refine g_sub [1, 0] rfl ?_
      exact hrec _ _
    · refine g_iload_n C D_Mo_freeFrame_21 rfl 1 rfl ?_
      exact g_iret C D_Mo_freeFrame_22
def F_Mo_freeFrame (σ : gM) : gO :=
  gl1 (l_Mo_freeFrame_2) 200 σ 0
set_option maxHeartbeats 4000000 in
theorem w_Mo_freeFrame {X : gX} (C : gC gctM prog_9_method_39_code kR7 2 0 0 (some .int) X) (σ : gM) : GG gctM X 0 [(0, .inr (.inr 0))] [] σ (F_Mo_freeFrame σ) := by
  unfold F_Mo_freeFrame
  refine g_iconst C D_Mo_freeFrame_0 ⟨by decide, by decide⟩ ?_
  refine g_istore_n (L' := [(1, .inl 0), (0, .inr (.inr 0))]) C D_Mo_freeFrame_1 rfl (by decide) rfl ?_
  refine g_sub [1, 0] rfl ?_
  exact wl_Mo_freeFrame_2 C 200 _ _
theorem c_Mo_freeFrame {σ : gM} {r : gR} (ho : F_Mo_freeFrame σ = some r) (hok : gOk [.inr (.inr 0)]) (hin : gIn gctM σ) : gCt gctM Y_Mo_freeFrame prog_9_method_39_code 2 (some .int) 0 0 [.inr (.inr 0)] σ r := g_entry (by decide) rfl (Nat.le_of_ble_eq_true rfl) ho hok hin (fun X C => w_Mo_freeFrame C σ)
theorem D_Mo_noteRun_0 : decode prog_9_method_40_code 0 = .ok (.aload_n 0, 1) := by decide +kernel
theorem D_Mo_noteRun_1 : decode prog_9_method_40_code 1 = .ok (.getfield 225, 3) := by decide +kernel
theorem D_Mo_noteRun_4 : decode prog_9_method_40_code 4 = .ok (.ifCond .le 19, 3) := by decide +kernel
theorem D_Mo_noteRun_7 : decode prog_9_method_40_code 7 = .ok (.aload_n 0, 1) := by decide +kernel
theorem D_Mo_noteRun_8 : decode prog_9_method_40_code 8 = .ok (.getfield 81, 3) := by decide +kernel
theorem D_Mo_noteRun_11 : decode prog_9_method_40_code 11 = .ok (.aload_n 0, 1) := by decide +kernel
theorem D_Mo_noteRun_12 : decode prog_9_method_40_code 12 = .ok (.getfield 225, 3) := by decide +kernel
theorem D_Mo_noteRun_15 : decode prog_9_method_40_code 15 = .ok (.iconst 1, 1) := by decide +kernel
theorem D_Mo_noteRun_16 : decode prog_9_method_40_code 16 = .ok (.isub, 1) := by decide +kernel
theorem D_Mo_noteRun_17 : decode prog_9_method_40_code 17 = .ok (.iaload, 1) := by decide +kernel
theorem D_Mo_noteRun_18 : decode prog_9_method_40_code 18 = .ok (.iload_n 1, 1) := by decide +kernel
theorem D_Mo_noteRun_19 : decode prog_9_method_40_code 19 = .ok (.if_icmp .ne 4, 3) := by decide +kernel
theorem D_Mo_noteRun_22 : decode prog_9_method_40_code 22 = .ok (.return_, 1) := by decide +kernel
theorem D_Mo_noteRun_23 : decode prog_9_method_40_code 23 = .ok (.aload_n 0, 1) := by decide +kernel
theorem D_Mo_noteRun_24 : decode prog_9_method_40_code 24 = .ok (.getfield 225, 3) := by decide +kernel
theorem D_Mo_noteRun_27 : decode prog_9_method_40_code 27 = .ok (.bipush 100, 2) := by decide +kernel
theorem D_Mo_noteRun_29 : decode prog_9_method_40_code 29 = .ok (.if_icmp .ne 41, 3) := by decide +kernel
theorem D_Mo_noteRun_32 : decode prog_9_method_40_code 32 = .ok (.iconst 1, 1) := by decide +kernel
theorem D_Mo_noteRun_33 : decode prog_9_method_40_code 33 = .ok (.istore_n 2, 1) := by decide +kernel
theorem D_Mo_noteRun_34 : decode prog_9_method_40_code 34 = .ok (.iload_n 2, 1) := by decide +kernel
theorem D_Mo_noteRun_35 : decode prog_9_method_40_code 35 = .ok (.bipush 100, 2) := by decide +kernel
theorem D_Mo_noteRun_37 : decode prog_9_method_40_code 37 = .ok (.if_icmp .ge 23, 3) := by decide +kernel
theorem D_Mo_noteRun_40 : decode prog_9_method_40_code 40 = .ok (.aload_n 0, 1) := by decide +kernel
theorem D_Mo_noteRun_41 : decode prog_9_method_40_code 41 = .ok (.getfield 81, 3) := by decide +kernel
theorem D_Mo_noteRun_44 : decode prog_9_method_40_code 44 = .ok (.iload_n 2, 1) := by decide +kernel
theorem D_Mo_noteRun_45 : decode prog_9_method_40_code 45 = .ok (.iconst 1, 1) := by decide +kernel
theorem D_Mo_noteRun_46 : decode prog_9_method_40_code 46 = .ok (.isub, 1) := by decide +kernel
theorem D_Mo_noteRun_47 : decode prog_9_method_40_code 47 = .ok (.aload_n 0, 1) := by decide +kernel
theorem D_Mo_noteRun_48 : decode prog_9_method_40_code 48 = .ok (.getfield 81, 3) := by decide +kernel
theorem D_Mo_noteRun_51 : decode prog_9_method_40_code 51 = .ok (.iload_n 2, 1) := by decide +kernel
theorem D_Mo_noteRun_52 : decode prog_9_method_40_code 52 = .ok (.iaload, 1) := by decide +kernel
theorem D_Mo_noteRun_53 : decode prog_9_method_40_code 53 = .ok (.iastore, 1) := by decide +kernel
theorem D_Mo_noteRun_54 : decode prog_9_method_40_code 54 = .ok (.iinc 2 1, 3) := by decide +kernel
theorem D_Mo_noteRun_57 : decode prog_9_method_40_code 57 = .ok (.goto (-23), 3) := by decide +kernel
theorem D_Mo_noteRun_60 : decode prog_9_method_40_code 60 = .ok (.aload_n 0, 1) := by decide +kernel
theorem D_Mo_noteRun_61 : decode prog_9_method_40_code 61 = .ok (.dup, 1) := by decide +kernel
theorem D_Mo_noteRun_62 : decode prog_9_method_40_code 62 = .ok (.getfield 225, 3) := by decide +kernel
theorem D_Mo_noteRun_65 : decode prog_9_method_40_code 65 = .ok (.iconst 1, 1) := by decide +kernel
theorem D_Mo_noteRun_66 : decode prog_9_method_40_code 66 = .ok (.isub, 1) := by decide +kernel
theorem D_Mo_noteRun_67 : decode prog_9_method_40_code 67 = .ok (.putfield 225, 3) := by decide +kernel
theorem D_Mo_noteRun_70 : decode prog_9_method_40_code 70 = .ok (.aload_n 0, 1) := by decide +kernel
theorem D_Mo_noteRun_71 : decode prog_9_method_40_code 71 = .ok (.getfield 81, 3) := by decide +kernel
theorem D_Mo_noteRun_74 : decode prog_9_method_40_code 74 = .ok (.aload_n 0, 1) := by decide +kernel
theorem D_Mo_noteRun_75 : decode prog_9_method_40_code 75 = .ok (.getfield 225, 3) := by decide +kernel
theorem D_Mo_noteRun_78 : decode prog_9_method_40_code 78 = .ok (.iload_n 1, 1) := by decide +kernel
theorem D_Mo_noteRun_79 : decode prog_9_method_40_code 79 = .ok (.iastore, 1) := by decide +kernel
theorem D_Mo_noteRun_80 : decode prog_9_method_40_code 80 = .ok (.aload_n 0, 1) := by decide +kernel
theorem D_Mo_noteRun_81 : decode prog_9_method_40_code 81 = .ok (.dup, 1) := by decide +kernel
theorem D_Mo_noteRun_82 : decode prog_9_method_40_code 82 = .ok (.getfield 225, 3) := by decide +kernel
theorem D_Mo_noteRun_85 : decode prog_9_method_40_code 85 = .ok (.iconst 1, 1) := by decide +kernel
theorem D_Mo_noteRun_86 : decode prog_9_method_40_code 86 = .ok (.iadd, 1) := by decide +kernel
theorem D_Mo_noteRun_87 : decode prog_9_method_40_code 87 = .ok (.putfield 225, 3) := by decide +kernel
theorem D_Mo_noteRun_90 : decode prog_9_method_40_code 90 = .ok (.return_, 1) := by decide +kernel
def j_Mo_noteRun_70 (σ : gM) (v1 : Int) : gO :=
  gw σ 20 100 (σ 0 29) v1 fun s1 =>
  ga ((s1 0 29) + 1) fun a2 =>
  gp s1 0 29 a2 fun s3 =>
  some (s3, 0)
set_option maxHeartbeats 4000000 in
theorem wj_Mo_noteRun_70 {X : gX} (C : gC gctM prog_9_method_40_code kR7 3 0 0 (none) X) (σ : gM) (v1 : Int) : GG gctM X 70 [(0, .inr (.inr 0)), (1, .inl v1)] [] σ (j_Mo_noteRun_70 σ v1) := by
  unfold j_Mo_noteRun_70
  refine g_aload_n C D_Mo_noteRun_70 rfl 0 rfl ?_
  refine g_getr (ci := 7) C 30 rfl kI7 rfl (by decide) rfl rfl wf_7_81 D_Mo_noteRun_71 ?_
  refine g_aload_n C D_Mo_noteRun_74 rfl 0 rfl ?_
  refine g_get (ci := 7) C 29 (jz := 29) rfl rfl kI7 rfl (by decide) rfl rfl wf_7_225 rfl D_Mo_noteRun_75 ?_
  refine g_iload_n C D_Mo_noteRun_78 rfl 1 rfl ?_
  refine g_iast C rfl rfl D_Mo_noteRun_79 (fun s1 => ?_)
  refine g_aload_n C D_Mo_noteRun_80 rfl 0 rfl ?_
  refine g_dup C D_Mo_noteRun_81 rfl ?_
  refine g_get (ci := 7) C 29 (jz := 29) rfl rfl kI7 rfl (by decide) rfl rfl wf_7_225 rfl D_Mo_noteRun_82 ?_
  refine g_iconst C D_Mo_noteRun_85 ⟨by decide, by decide⟩ ?_
  refine g_iadd C D_Mo_noteRun_86 (fun a2 => ?_)
  refine g_putI (ci := 7) C 29 (jz := 29) rfl rfl kI7 kO7 kN7 rfl (by decide) rfl rfl wf_7_225 D_Mo_noteRun_87 (fun s3 => ?_)
  exact g_vret C D_Mo_noteRun_90
def l_Mo_noteRun_34 (k1 : gM → gO) (p1 : Int) (rec : gM → Int → gO) (σ : gM) (v2 : Int) : gO :=
  if v2 < 100 then
  (ga (v2 - 1) fun a1 =>
  gi v2 100 <|
  gw σ 20 100 a1 (σ 20 v2) fun s2 =>
  ga (v2 + 1) fun a3 =>
  rec s2 a3)
  else
  (k1 σ)
set_option maxHeartbeats 4000000 in
theorem wl_Mo_noteRun_34 {X : gX} (C : gC gctM prog_9_method_40_code kR7 3 0 0 (none) X) {p1 : Int} {k1 : gM → gO} (hk1 : ∀ (σ : gM), GG gctM X 60 [(0, .inr (.inr 0)), (1, .inl p1)] [] σ (k1 σ)) : ∀ (n : Nat) (σ : gM) (a0 : Int), GG gctM X 34 [(0, .inr (.inr 0)), (1, .inl p1), (2, .inl a0)] [] σ (gl1 (l_Mo_noteRun_34 k1 p1) n σ a0) := by
  refine gl1_run (P := fun σ a0 o => GG gctM X 34 [(0, .inr (.inr 0)), (1, .inl p1), (2, .inl a0)] [] σ o) (fun _ _ => g_none) (fun rec hrec σ v2 => ?_)
  unfold l_Mo_noteRun_34
  refine g_iload_n C D_Mo_noteRun_34 rfl 2 rfl ?_
  refine g_bipush C D_Mo_noteRun_35 (by decide) ⟨by decide, by decide⟩ ?_
  refine g_icmp_ge (tgt := 60) C D_Mo_noteRun_37 (by decide) ?_ ?_
  · refine g_sub [0, 1] rfl ?_
    exact hk1 _
  · refine g_aload_n C D_Mo_noteRun_40 rfl 0 rfl ?_
    refine g_getr (ci := 7) C 30 rfl kI7 rfl (by decide) rfl rfl wf_7_81 D_Mo_noteRun_41 ?_
    refine g_iload_n C D_Mo_noteRun_44 rfl 2 rfl ?_
    refine g_iconst C D_Mo_noteRun_45 ⟨by decide, by decide⟩ ?_
    refine g_isub C D_Mo_noteRun_46 (fun a1 => ?_)
    refine g_aload_n C D_Mo_noteRun_47 rfl 0 rfl ?_
    refine g_getr (ci := 7) C 30 rfl kI7 rfl (by decide) rfl rfl wf_7_81 D_Mo_noteRun_48 ?_
    refine g_iload_n C D_Mo_noteRun_51 rfl 2 rfl ?_
    refine g_iald C rfl rfl rfl D_Mo_noteRun_52 ?_
    refine g_iast C rfl rfl D_Mo_noteRun_53 (fun s2 => ?_)
    refine g_iinc (t := 2) (L' := fun z => [(2, .inl z), (0, .inr (.inr 0)), (1, .inl p1)]) C D_Mo_noteRun_54 rfl (by decide) (fun _ => rfl) (fun a3 => ?_)
    refine g_goto (tgt := 34) C D_Mo_noteRun_57 (by decide) ?_
    refine g_sub [1, 2, 0] rfl ?_
    exact hrec _ _
def j_Mo_noteRun_23 (σ : gM) (v1 : Int) : gO :=
  if (σ 0 29) = 100 then
  (gl1 (l_Mo_noteRun_34 (fun s1 => ga ((s1 0 29) - 1) fun a2 =>
  gp s1 0 29 a2 fun s3 =>
  j_Mo_noteRun_70 s3 v1) v1) 200 σ 1)
  else
  (j_Mo_noteRun_70 σ v1)
set_option maxHeartbeats 4000000 in
theorem wj_Mo_noteRun_23 {X : gX} (C : gC gctM prog_9_method_40_code kR7 3 0 0 (none) X) (σ : gM) (v1 : Int) : GG gctM X 23 [(0, .inr (.inr 0)), (1, .inl v1)] [] σ (j_Mo_noteRun_23 σ v1) := by
  unfold j_Mo_noteRun_23
  refine g_aload_n C D_Mo_noteRun_23 rfl 0 rfl ?_
  refine g_get (ci := 7) C 29 (jz := 29) rfl rfl kI7 rfl (by decide) rfl rfl wf_7_225 rfl D_Mo_noteRun_24 ?_
  refine g_bipush C D_Mo_noteRun_27 (by decide) ⟨by decide, by decide⟩ ?_
  refine g_icmp_ne (tgt := 70) C D_Mo_noteRun_29 (by decide) ?_ ?_
  · exact wj_Mo_noteRun_70 C _ _
  · refine g_iconst C D_Mo_noteRun_32 ⟨by decide, by decide⟩ ?_
    refine g_istore_n (L' := [(2, .inl 1), (0, .inr (.inr 0)), (1, .inl v1)]) C D_Mo_noteRun_33 rfl (by decide) rfl ?_
    refine g_sub [1, 2, 0] rfl ?_
    exact wl_Mo_noteRun_34 C (fun s1 => by
        refine g_aload_n C D_Mo_noteRun_60 rfl 0 rfl ?_
        refine g_dup C D_Mo_noteRun_61 rfl ?_
        refine g_get (ci := 7) C 29 (jz := 29) rfl rfl kI7 rfl (by decide) rfl rfl wf_7_225 rfl D_Mo_noteRun_62 ?_
        refine g_iconst C D_Mo_noteRun_65 ⟨by decide, by decide⟩ ?_
        refine g_isub C D_Mo_noteRun_66 (fun a2 => ?_)
        refine g_putI (ci := 7) C 29 (jz := 29) rfl rfl kI7 kO7 kN7 rfl (by decide) rfl rfl wf_7_225 D_Mo_noteRun_67 (fun s3 => ?_)
        exact wj_Mo_noteRun_70 C _ _) 200 _ _
def F_Mo_noteRun (σ : gM) (v1 : Int) : gO :=
  if 0 < (σ 0 29) then
  (ga ((σ 0 29) - 1) fun a1 =>
  gi a1 100 <|
  if (σ 20 a1) = v1 then
  (some (σ, 0))
  else
  (j_Mo_noteRun_23 σ v1))
  else
  (j_Mo_noteRun_23 σ v1)
set_option maxHeartbeats 4000000 in
theorem w_Mo_noteRun {X : gX} (C : gC gctM prog_9_method_40_code kR7 3 0 0 (none) X) (σ : gM) (v1 : Int) : GG gctM X 0 [(0, .inr (.inr 0)), (1, .inl v1)] [] σ (F_Mo_noteRun σ v1) := by
  unfold F_Mo_noteRun
  refine g_aload_n C D_Mo_noteRun_0 rfl 0 rfl ?_
  refine g_get (ci := 7) C 29 (jz := 29) rfl rfl kI7 rfl (by decide) rfl rfl wf_7_225 rfl D_Mo_noteRun_1 ?_
  refine g_if_le (tgt := 23) C D_Mo_noteRun_4 (by decide) ?_ ?_
  · exact wj_Mo_noteRun_23 C _ _
  · refine g_aload_n C D_Mo_noteRun_7 rfl 0 rfl ?_
    refine g_getr (ci := 7) C 30 rfl kI7 rfl (by decide) rfl rfl wf_7_81 D_Mo_noteRun_8 ?_
    refine g_aload_n C D_Mo_noteRun_11 rfl 0 rfl ?_
    refine g_get (ci := 7) C 29 (jz := 29) rfl rfl kI7 rfl (by decide) rfl rfl wf_7_225 rfl D_Mo_noteRun_12 ?_
    refine g_iconst C D_Mo_noteRun_15 ⟨by decide, by decide⟩ ?_
    refine g_isub C D_Mo_noteRun_16 (fun a1 => ?_)
    refine g_iald C rfl rfl rfl D_Mo_noteRun_17 ?_
    refine g_iload_n C D_Mo_noteRun_18 rfl 1 rfl ?_
    refine g_icmp_ne (tgt := 23) C D_Mo_noteRun_19 (by decide) ?_ ?_
    · exact wj_Mo_noteRun_23 C _ _
    · exact g_vret C D_Mo_noteRun_22
theorem c_Mo_noteRun {σ : gM} {v1 : Int} {r : gR} (ho : F_Mo_noteRun σ v1 = some r) (hok : gOk [.inr (.inr 0), .inl v1]) (hin : gIn gctM σ) : gCt gctM Y_Mo_noteRun prog_9_method_40_code 3 (none) 0 0 [.inr (.inr 0), .inl v1] σ r := g_entry (by decide) rfl (Nat.le_of_ble_eq_true rfl) ho hok hin (fun X C => w_Mo_noteRun C σ v1)
theorem D_Mo_touch_0 : decode prog_9_method_41_code 0 = .ok (.aload_n 0, 1) := by decide +kernel
theorem D_Mo_touch_1 : decode prog_9_method_41_code 1 = .ok (.dup, 1) := by decide +kernel
theorem D_Mo_touch_2 : decode prog_9_method_41_code 2 = .ok (.getfield 177, 3) := by decide +kernel
theorem D_Mo_touch_5 : decode prog_9_method_41_code 5 = .ok (.iconst 1, 1) := by decide +kernel
theorem D_Mo_touch_6 : decode prog_9_method_41_code 6 = .ok (.iadd, 1) := by decide +kernel
theorem D_Mo_touch_7 : decode prog_9_method_41_code 7 = .ok (.putfield 177, 3) := by decide +kernel
theorem D_Mo_touch_10 : decode prog_9_method_41_code 10 = .ok (.aload_n 0, 1) := by decide +kernel
theorem D_Mo_touch_11 : decode prog_9_method_41_code 11 = .ok (.iload_n 1, 1) := by decide +kernel
theorem D_Mo_touch_12 : decode prog_9_method_41_code 12 = .ok (.invokevirtual 228, 3) := by decide +kernel
theorem D_Mo_touch_15 : decode prog_9_method_41_code 15 = .ok (.aload_n 0, 1) := by decide +kernel
theorem D_Mo_touch_16 : decode prog_9_method_41_code 16 = .ok (.getfield 75, 3) := by decide +kernel
theorem D_Mo_touch_19 : decode prog_9_method_41_code 19 = .ok (.iload_n 1, 1) := by decide +kernel
theorem D_Mo_touch_20 : decode prog_9_method_41_code 20 = .ok (.iconst 1, 1) := by decide +kernel
theorem D_Mo_touch_21 : decode prog_9_method_41_code 21 = .ok (.bastore, 1) := by decide +kernel
theorem D_Mo_touch_22 : decode prog_9_method_41_code 22 = .ok (.aload_n 0, 1) := by decide +kernel
theorem D_Mo_touch_23 : decode prog_9_method_41_code 23 = .ok (.getfield 72, 3) := by decide +kernel
theorem D_Mo_touch_26 : decode prog_9_method_41_code 26 = .ok (.iload_n 1, 1) := by decide +kernel
theorem D_Mo_touch_27 : decode prog_9_method_41_code 27 = .ok (.iaload, 1) := by decide +kernel
theorem D_Mo_touch_28 : decode prog_9_method_41_code 28 = .ok (.istore_n 2, 1) := by decide +kernel
theorem D_Mo_touch_29 : decode prog_9_method_41_code 29 = .ok (.iload_n 2, 1) := by decide +kernel
theorem D_Mo_touch_30 : decode prog_9_method_41_code 30 = .ok (.bipush (-4), 2) := by decide +kernel
theorem D_Mo_touch_32 : decode prog_9_method_41_code 32 = .ok (.if_icmp .ne 128, 3) := by decide +kernel
theorem D_Mo_touch_35 : decode prog_9_method_41_code 35 = .ok (.aload_n 0, 1) := by decide +kernel
theorem D_Mo_touch_36 : decode prog_9_method_41_code 36 = .ok (.getfield 112, 3) := by decide +kernel
theorem D_Mo_touch_39 : decode prog_9_method_41_code 39 = .ok (.bipush 6, 2) := by decide +kernel
theorem D_Mo_touch_41 : decode prog_9_method_41_code 41 = .ok (.dup2, 1) := by decide +kernel
theorem D_Mo_touch_42 : decode prog_9_method_41_code 42 = .ok (.iaload, 1) := by decide +kernel
theorem D_Mo_touch_43 : decode prog_9_method_41_code 43 = .ok (.iconst 1, 1) := by decide +kernel
theorem D_Mo_touch_44 : decode prog_9_method_41_code 44 = .ok (.iadd, 1) := by decide +kernel
theorem D_Mo_touch_45 : decode prog_9_method_41_code 45 = .ok (.iastore, 1) := by decide +kernel
theorem D_Mo_touch_46 : decode prog_9_method_41_code 46 = .ok (.aload_n 0, 1) := by decide +kernel
theorem D_Mo_touch_47 : decode prog_9_method_41_code 47 = .ok (.bipush 6, 2) := by decide +kernel
theorem D_Mo_touch_49 : decode prog_9_method_41_code 49 = .ok (.bipush 20, 2) := by decide +kernel
theorem D_Mo_touch_51 : decode prog_9_method_41_code 51 = .ok (.invokevirtual 157, 3) := by decide +kernel
theorem D_Mo_touch_54 : decode prog_9_method_41_code 54 = .ok (.aload_n 0, 1) := by decide +kernel
theorem D_Mo_touch_55 : decode prog_9_method_41_code 55 = .ok (.invokevirtual 231, 3) := by decide +kernel
theorem D_Mo_touch_58 : decode prog_9_method_41_code 58 = .ok (.istore_n 2, 1) := by decide +kernel
theorem D_Mo_touch_59 : decode prog_9_method_41_code 59 = .ok (.iload_n 2, 1) := by decide +kernel
theorem D_Mo_touch_60 : decode prog_9_method_41_code 60 = .ok (.bipush (-4), 2) := by decide +kernel
theorem D_Mo_touch_62 : decode prog_9_method_41_code 62 = .ok (.if_icmp .ne 14, 3) := by decide +kernel
theorem D_Mo_touch_65 : decode prog_9_method_41_code 65 = .ok (.aload_n 0, 1) := by decide +kernel
theorem D_Mo_touch_66 : decode prog_9_method_41_code 66 = .ok (.invokevirtual 235, 3) := by decide +kernel
theorem D_Mo_touch_69 : decode prog_9_method_41_code 69 = .ok (.istore_n 2, 1) := by decide +kernel
theorem D_Mo_touch_70 : decode prog_9_method_41_code 70 = .ok (.aload_n 0, 1) := by decide +kernel
theorem D_Mo_touch_71 : decode prog_9_method_41_code 71 = .ok (.iload_n 2, 1) := by decide +kernel
theorem D_Mo_touch_72 : decode prog_9_method_41_code 72 = .ok (.iconst 1, 1) := by decide +kernel
theorem D_Mo_touch_73 : decode prog_9_method_41_code 73 = .ok (.invokevirtual 238, 3) := by decide +kernel
theorem D_Mo_touch_76 : decode prog_9_method_41_code 76 = .ok (.iconst 0, 1) := by decide +kernel
theorem D_Mo_touch_77 : decode prog_9_method_41_code 77 = .ok (.istore_n 3, 1) := by decide +kernel
theorem D_Mo_touch_78 : decode prog_9_method_41_code 78 = .ok (.iload_n 3, 1) := by decide +kernel
theorem D_Mo_touch_79 : decode prog_9_method_41_code 79 = .ok (.bipush 32, 2) := by decide +kernel
theorem D_Mo_touch_81 : decode prog_9_method_41_code 81 = .ok (.if_icmp .ge 55, 3) := by decide +kernel
theorem D_Mo_touch_84 : decode prog_9_method_41_code 84 = .ok (.aload_n 0, 1) := by decide +kernel
theorem D_Mo_touch_85 : decode prog_9_method_41_code 85 = .ok (.getfield 78, 3) := by decide +kernel
theorem D_Mo_touch_88 : decode prog_9_method_41_code 88 = .ok (.bipush 32, 2) := by decide +kernel
theorem D_Mo_touch_90 : decode prog_9_method_41_code 90 = .ok (.iload_n 1, 1) := by decide +kernel
theorem D_Mo_touch_91 : decode prog_9_method_41_code 91 = .ok (.imul, 1) := by decide +kernel
theorem D_Mo_touch_92 : decode prog_9_method_41_code 92 = .ok (.iload_n 3, 1) := by decide +kernel
theorem D_Mo_touch_93 : decode prog_9_method_41_code 93 = .ok (.iadd, 1) := by decide +kernel
theorem D_Mo_touch_94 : decode prog_9_method_41_code 94 = .ok (.iaload, 1) := by decide +kernel
theorem D_Mo_touch_95 : decode prog_9_method_41_code 95 = .ok (.istore 4, 2) := by decide +kernel
theorem D_Mo_touch_97 : decode prog_9_method_41_code 97 = .ok (.aload_n 0, 1) := by decide +kernel
theorem D_Mo_touch_98 : decode prog_9_method_41_code 98 = .ok (.getfield 7, 3) := by decide +kernel
theorem D_Mo_touch_101 : decode prog_9_method_41_code 101 = .ok (.bipush 32, 2) := by decide +kernel
theorem D_Mo_touch_103 : decode prog_9_method_41_code 103 = .ok (.iload_n 2, 1) := by decide +kernel
theorem D_Mo_touch_104 : decode prog_9_method_41_code 104 = .ok (.imul, 1) := by decide +kernel
theorem D_Mo_touch_105 : decode prog_9_method_41_code 105 = .ok (.iload_n 3, 1) := by decide +kernel
theorem D_Mo_touch_106 : decode prog_9_method_41_code 106 = .ok (.iadd, 1) := by decide +kernel
theorem D_Mo_touch_107 : decode prog_9_method_41_code 107 = .ok (.iload 4, 2) := by decide +kernel
theorem D_Mo_touch_109 : decode prog_9_method_41_code 109 = .ok (.bipush (-5), 2) := by decide +kernel
theorem D_Mo_touch_111 : decode prog_9_method_41_code 111 = .ok (.if_icmp .ne 13, 3) := by decide +kernel
theorem D_Mo_touch_114 : decode prog_9_method_41_code 114 = .ok (.iconst 0, 1) := by decide +kernel
theorem D_Mo_touch_115 : decode prog_9_method_41_code 115 = .ok (.invokestatic 164, 3) := by decide +kernel
theorem D_Mo_touch_118 : decode prog_9_method_41_code 118 = .ok (.bipush 6, 2) := by decide +kernel
theorem D_Mo_touch_120 : decode prog_9_method_41_code 120 = .ok (.ixor, 1) := by decide +kernel
theorem D_Mo_touch_121 : decode prog_9_method_41_code 121 = .ok (.goto 8, 3) := by decide +kernel
theorem D_Mo_touch_124 : decode prog_9_method_41_code 124 = .ok (.iload 4, 2) := by decide +kernel
theorem D_Mo_touch_126 : decode prog_9_method_41_code 126 = .ok (.invokestatic 164, 3) := by decide +kernel
theorem D_Mo_touch_129 : decode prog_9_method_41_code 129 = .ok (.iastore, 1) := by decide +kernel
theorem D_Mo_touch_130 : decode prog_9_method_41_code 130 = .ok (.iinc 3 1, 3) := by decide +kernel
theorem D_Mo_touch_133 : decode prog_9_method_41_code 133 = .ok (.goto (-55), 3) := by decide +kernel
theorem D_Mo_touch_136 : decode prog_9_method_41_code 136 = .ok (.aload_n 0, 1) := by decide +kernel
theorem D_Mo_touch_137 : decode prog_9_method_41_code 137 = .ok (.getfield 60, 3) := by decide +kernel
theorem D_Mo_touch_140 : decode prog_9_method_41_code 140 = .ok (.iload_n 2, 1) := by decide +kernel
theorem D_Mo_touch_141 : decode prog_9_method_41_code 141 = .ok (.iload_n 1, 1) := by decide +kernel
theorem D_Mo_touch_142 : decode prog_9_method_41_code 142 = .ok (.iastore, 1) := by decide +kernel
theorem D_Mo_touch_143 : decode prog_9_method_41_code 143 = .ok (.aload_n 0, 1) := by decide +kernel
theorem D_Mo_touch_144 : decode prog_9_method_41_code 144 = .ok (.getfield 72, 3) := by decide +kernel
theorem D_Mo_touch_147 : decode prog_9_method_41_code 147 = .ok (.iload_n 1, 1) := by decide +kernel
theorem D_Mo_touch_148 : decode prog_9_method_41_code 148 = .ok (.iload_n 2, 1) := by decide +kernel
theorem D_Mo_touch_149 : decode prog_9_method_41_code 149 = .ok (.iastore, 1) := by decide +kernel
theorem D_Mo_touch_150 : decode prog_9_method_41_code 150 = .ok (.aload_n 0, 1) := by decide +kernel
theorem D_Mo_touch_151 : decode prog_9_method_41_code 151 = .ok (.getfield 66, 3) := by decide +kernel
theorem D_Mo_touch_154 : decode prog_9_method_41_code 154 = .ok (.iload_n 2, 1) := by decide +kernel
theorem D_Mo_touch_155 : decode prog_9_method_41_code 155 = .ok (.aload_n 0, 1) := by decide +kernel
theorem D_Mo_touch_156 : decode prog_9_method_41_code 156 = .ok (.getfield 177, 3) := by decide +kernel
theorem D_Mo_touch_159 : decode prog_9_method_41_code 159 = .ok (.iastore, 1) := by decide +kernel
theorem D_Mo_touch_160 : decode prog_9_method_41_code 160 = .ok (.aload_n 0, 1) := by decide +kernel
theorem D_Mo_touch_161 : decode prog_9_method_41_code 161 = .ok (.getfield 69, 3) := by decide +kernel
theorem D_Mo_touch_164 : decode prog_9_method_41_code 164 = .ok (.iload_n 2, 1) := by decide +kernel
theorem D_Mo_touch_165 : decode prog_9_method_41_code 165 = .ok (.aload_n 0, 1) := by decide +kernel
theorem D_Mo_touch_166 : decode prog_9_method_41_code 166 = .ok (.getfield 177, 3) := by decide +kernel
theorem D_Mo_touch_169 : decode prog_9_method_41_code 169 = .ok (.iastore, 1) := by decide +kernel
theorem D_Mo_touch_170 : decode prog_9_method_41_code 170 = .ok (.aload_n 0, 1) := by decide +kernel
theorem D_Mo_touch_171 : decode prog_9_method_41_code 171 = .ok (.getfield 63, 3) := by decide +kernel
theorem D_Mo_touch_174 : decode prog_9_method_41_code 174 = .ok (.iload_n 2, 1) := by decide +kernel
theorem D_Mo_touch_175 : decode prog_9_method_41_code 175 = .ok (.iconst 1, 1) := by decide +kernel
theorem D_Mo_touch_176 : decode prog_9_method_41_code 176 = .ok (.bastore, 1) := by decide +kernel
theorem D_Mo_touch_177 : decode prog_9_method_41_code 177 = .ok (.iload_n 2, 1) := by decide +kernel
theorem D_Mo_touch_178 : decode prog_9_method_41_code 178 = .ok (.ireturn, 1) := by decide +kernel
def j_Mo_touch_160 (σ : gM) (v2 : Int) : gO :=
  gw σ 16 16 v2 (σ 0 18) fun s1 =>
  gwb s1 14 16 v2 1 fun s2 =>
  some (s2, v2)
set_option maxHeartbeats 4000000 in
theorem wj_Mo_touch_160 {X : gX} (C : gC gctM prog_9_method_41_code kR7 5 6 140 (some .int) X) (σ : gM) (v2 : Int) : GG gctM X 160 [(0, .inr (.inr 0)), (2, .inl v2)] [] σ (j_Mo_touch_160 σ v2) := by
  unfold j_Mo_touch_160
  refine g_aload_n C D_Mo_touch_160 rfl 0 rfl ?_
  refine g_getr (ci := 7) C 25 rfl kI7 rfl (by decide) rfl rfl wf_7_69 D_Mo_touch_161 ?_
  refine g_iload_n C D_Mo_touch_164 rfl 1 rfl ?_
  refine g_aload_n C D_Mo_touch_165 rfl 0 rfl ?_
  refine g_get (ci := 7) C 18 (jz := 18) rfl rfl kI7 rfl (by decide) rfl rfl wf_7_177 rfl D_Mo_touch_166 ?_
  refine g_iast C rfl rfl D_Mo_touch_169 (fun s1 => ?_)
  refine g_aload_n C D_Mo_touch_170 rfl 0 rfl ?_
  refine g_getr (ci := 7) C 23 rfl kI7 rfl (by decide) rfl rfl wf_7_63 D_Mo_touch_171 ?_
  refine g_iload_n C D_Mo_touch_174 rfl 1 rfl ?_
  refine g_iconst C D_Mo_touch_175 ⟨by decide, by decide⟩ ?_
  refine g_zast C rfl rfl D_Mo_touch_176 (fun s2 => ?_)
  refine g_iload_n C D_Mo_touch_177 rfl 1 rfl ?_
  exact g_iret C D_Mo_touch_178
def j_Mo_touch_129_1 (k1 : gM → gO) (rec : gM → Int → gO) (σ : gM) (p1 p2 v3 t0 t1 : Int) : gO :=
  gw σ 1 512 t1 t0 fun s1 =>
  ga (v3 + 1) fun a2 =>
  rec s1 a2
set_option maxHeartbeats 4000000 in
theorem wj_Mo_touch_129_1 {X : gX} (C : gC gctM prog_9_method_41_code kR7 5 6 140 (some .int) X) {p1 p2 : Int} {k1 : gM → gO} (hk1 : ∀ (σ : gM), GG gctM X 136 [(0, .inr (.inr 0)), (1, .inl p1), (2, .inl p2)] [] σ (k1 σ)) {rec : gM → Int → gO} (hrec : ∀ (σ : gM) (a0 : Int), GG gctM X 78 [(0, .inr (.inr 0)), (1, .inl p1), (2, .inl p2), (3, .inl a0)] [] σ (rec σ a0)) (σ : gM) (v3 t0 t1 : Int) : GG gctM X 129 [(0, .inr (.inr 0)), (1, .inl p1), (2, .inl p2), (3, .inl v3)] [.inl t0, .inl t1, .inr (.inr 1)] σ (j_Mo_touch_129_1 k1 rec σ p1 p2 v3 t0 t1) := by
  unfold j_Mo_touch_129_1
  refine g_iast C rfl rfl D_Mo_touch_129 (fun s1 => ?_)
  refine g_iinc (t := 3) (L' := fun z => [(3, .inl z), (0, .inr (.inr 0)), (1, .inl p1), (2, .inl p2)]) C D_Mo_touch_130 rfl (by decide) (fun _ => rfl) (fun a2 => ?_)
  refine g_goto (tgt := 78) C D_Mo_touch_133 (by decide) ?_
  refine g_sub [1, 2, 3, 0] rfl ?_
  exact hrec _ _
def l_Mo_touch_78 (k1 : gM → gO) (p1 p2 : Int) (rec : gM → Int → gO) (σ : gM) (v3 : Int) : gO :=
  if v3 < 32 then
  (ga (32 * p1) fun a1 =>
  ga (a1 + v3) fun a2 =>
  gi a2 1024 <|
  gv (σ 19 a2) fun a3 =>
  ga (32 * p2) fun a4 =>
  ga (a4 + v3) fun a5 =>
  if a3 = (-5) then
  (gk (F_Mo_code σ 0) fun s8 a9 =>
  j_Mo_touch_129_1 k1 rec s8 p1 p2 v3 (gXor a9 6) a5)
  else
  (gk (F_Mo_code σ a3) fun s6 a7 =>
  j_Mo_touch_129_1 k1 rec s6 p1 p2 v3 a7 a5))
  else
  (k1 σ)
set_option maxHeartbeats 4000000 in
theorem wl_Mo_touch_78 {X : gX} (C : gC gctM prog_9_method_41_code kR7 5 6 140 (some .int) X) {p1 p2 : Int} {k1 : gM → gO} (hk1 : ∀ (σ : gM), GG gctM X 136 [(0, .inr (.inr 0)), (1, .inl p1), (2, .inl p2)] [] σ (k1 σ)) : ∀ (n : Nat) (σ : gM) (a0 : Int), GG gctM X 78 [(0, .inr (.inr 0)), (1, .inl p1), (2, .inl p2), (3, .inl a0)] [] σ (gl1 (l_Mo_touch_78 k1 p1 p2) n σ a0) := by
  refine gl1_run (P := fun σ a0 o => GG gctM X 78 [(0, .inr (.inr 0)), (1, .inl p1), (2, .inl p2), (3, .inl a0)] [] σ o) (fun _ _ => g_none) (fun rec hrec σ v3 => ?_)
  unfold l_Mo_touch_78
  refine g_iload_n C D_Mo_touch_78 rfl 3 rfl ?_
  refine g_bipush C D_Mo_touch_79 (by decide) ⟨by decide, by decide⟩ ?_
  refine g_icmp_ge (tgt := 136) C D_Mo_touch_81 (by decide) ?_ ?_
  · refine g_sub [0, 1, 2] rfl ?_
    exact hk1 _
  · refine g_aload_n C D_Mo_touch_84 rfl 0 rfl ?_
    refine g_getr (ci := 7) C 28 rfl kI7 rfl (by decide) rfl rfl wf_7_78 D_Mo_touch_85 ?_
    refine g_bipush C D_Mo_touch_88 (by decide) ⟨by decide, by decide⟩ ?_
    refine g_iload_n C D_Mo_touch_90 rfl 1 rfl ?_
    refine g_imul C D_Mo_touch_91 (fun a1 => ?_)
    refine g_iload_n C D_Mo_touch_92 rfl 3 rfl ?_
    refine g_iadd C D_Mo_touch_93 (fun a2 => ?_)
    refine g_iald C rfl rfl rfl D_Mo_touch_94 ?_
    refine g_let C (fun a3 => ?_)
    refine g_istore (L' := [(4, .inl a3), (0, .inr (.inr 0)), (1, .inl p1), (2, .inl p2), (3, .inl v3)]) C D_Mo_touch_95 (by decide) rfl ?_
    refine g_aload_n C D_Mo_touch_97 rfl 1 rfl ?_
    refine g_getr (ci := 7) C 0 rfl kI7 rfl (by decide) rfl rfl wf_7_7 D_Mo_touch_98 ?_
    refine g_bipush C D_Mo_touch_101 (by decide) ⟨by decide, by decide⟩ ?_
    refine g_iload_n C D_Mo_touch_103 rfl 3 rfl ?_
    refine g_imul C D_Mo_touch_104 (fun a4 => ?_)
    refine g_iload_n C D_Mo_touch_105 rfl 4 rfl ?_
    refine g_iadd C D_Mo_touch_106 (fun a5 => ?_)
    refine g_iload C D_Mo_touch_107 0 rfl ?_
    refine g_bipush C D_Mo_touch_109 (by decide) ⟨by decide, by decide⟩ ?_
    refine g_icmp_ne (tgt := 124) C D_Mo_touch_111 (by decide) ?_ ?_
    · refine g_iload C D_Mo_touch_124 0 rfl ?_
      refine g_callSi C [.inl a3] [.inl a5, .inr (.inr 1)] (Or.inl rfl) rfl (fun _ h1 h2 h3 => c_Mo_code h1 h2 h3) wc_7_164 (by decide) (Nat.le_of_ble_eq_true rfl) D_Mo_touch_126 (fun s6 a7 => ?_)
      refine g_sub [1, 2, 3, 4] rfl ?_
      exact wj_Mo_touch_129_1 C hk1 hrec _ _ _ _
    · refine g_iconst C D_Mo_touch_114 ⟨by decide, by decide⟩ ?_
      refine g_callSi C [.inl 0] [.inl a5, .inr (.inr 1)] (Or.inl rfl) rfl (fun _ h1 h2 h3 => c_Mo_code h1 h2 h3) wc_7_164 (by decide) (Nat.le_of_ble_eq_true rfl) D_Mo_touch_115 (fun s8 a9 => ?_)
      refine g_bipush C D_Mo_touch_118 (by decide) ⟨by decide, by decide⟩ ?_
      refine g_ixor C D_Mo_touch_120 ?_
      refine g_goto (tgt := 129) C D_Mo_touch_121 (by decide) ?_
      refine g_sub [1, 2, 3, 4] rfl ?_
      exact wj_Mo_touch_129_1 C hk1 hrec _ _ _ _
def j_Mo_touch_76 (σ : gM) (v1 v2 : Int) : gO :=
  gl1 (l_Mo_touch_78 (fun s1 => gw s1 13 16 v2 v1 fun s2 =>
  gw s2 17 32 v1 v2 fun s3 =>
  gw s3 15 16 v2 (s3 0 18) fun s4 =>
  j_Mo_touch_160 s4 v2) v1 v2) 200 σ 0
set_option maxHeartbeats 4000000 in
theorem wj_Mo_touch_76 {X : gX} (C : gC gctM prog_9_method_41_code kR7 5 6 140 (some .int) X) (σ : gM) (v1 v2 : Int) : GG gctM X 76 [(0, .inr (.inr 0)), (1, .inl v1), (2, .inl v2)] [] σ (j_Mo_touch_76 σ v1 v2) := by
  unfold j_Mo_touch_76
  refine g_iconst C D_Mo_touch_76 ⟨by decide, by decide⟩ ?_
  refine g_istore_n (L' := [(3, .inl 0), (0, .inr (.inr 0)), (1, .inl v1), (2, .inl v2)]) C D_Mo_touch_77 rfl (by decide) rfl ?_
  refine g_sub [1, 2, 3, 0] rfl ?_
  exact wl_Mo_touch_78 C (fun s1 => by
      refine g_aload_n C D_Mo_touch_136 rfl 0 rfl ?_
      refine g_getr (ci := 7) C 22 rfl kI7 rfl (by decide) rfl rfl wf_7_60 D_Mo_touch_137 ?_
      refine g_iload_n C D_Mo_touch_140 rfl 2 rfl ?_
      refine g_iload_n C D_Mo_touch_141 rfl 1 rfl ?_
      refine g_iast C rfl rfl D_Mo_touch_142 (fun s2 => ?_)
      refine g_aload_n C D_Mo_touch_143 rfl 0 rfl ?_
      refine g_getr (ci := 7) C 26 rfl kI7 rfl (by decide) rfl rfl wf_7_72 D_Mo_touch_144 ?_
      refine g_iload_n C D_Mo_touch_147 rfl 1 rfl ?_
      refine g_iload_n C D_Mo_touch_148 rfl 2 rfl ?_
      refine g_iast C rfl rfl D_Mo_touch_149 (fun s3 => ?_)
      refine g_aload_n C D_Mo_touch_150 rfl 0 rfl ?_
      refine g_getr (ci := 7) C 24 rfl kI7 rfl (by decide) rfl rfl wf_7_66 D_Mo_touch_151 ?_
      refine g_iload_n C D_Mo_touch_154 rfl 2 rfl ?_
      refine g_aload_n C D_Mo_touch_155 rfl 0 rfl ?_
      refine g_get (ci := 7) C 18 (jz := 18) rfl rfl kI7 rfl (by decide) rfl rfl wf_7_177 rfl D_Mo_touch_156 ?_
      refine g_iast C rfl rfl D_Mo_touch_159 (fun s4 => ?_)
      refine g_sub [0, 2] rfl ?_
      exact wj_Mo_touch_160 C _ _) 200 _ _
def F_Mo_touch (σ : gM) (v1 : Int) : gO :=
  ga ((σ 0 18) + 1) fun a1 =>
  gp σ 0 18 a1 fun s2 =>
  gk (F_Mo_noteRun s2 v1) fun s3 _ =>
  gwb s3 18 32 v1 1 fun s4 =>
  gi v1 32 <|
  gv (s4 17 v1) fun a5 =>
  if a5 = (-4) then
  (gi 6 16 <|
  ga ((s4 30 6) + 1) fun a6 =>
  gw s4 30 16 6 a6 fun s7 =>
  gk (F_Mo_tick s7 6 20) fun s8 _ =>
  gk (F_Mo_freeFrame s8) fun s9 a10 =>
  if a10 = (-4) then
  (gk (F_Mo_whoGoes s9) fun s11 a12 =>
  gk (F_Mo_goAway s11 a12 1) fun s13 _ =>
  j_Mo_touch_76 s13 v1 a12)
  else
  (j_Mo_touch_76 s9 v1 a10))
  else
  (j_Mo_touch_160 s4 a5)
set_option maxHeartbeats 4000000 in
theorem w_Mo_touch {X : gX} (C : gC gctM prog_9_method_41_code kR7 5 6 140 (some .int) X) (σ : gM) (v1 : Int) : GG gctM X 0 [(0, .inr (.inr 0)), (1, .inl v1)] [] σ (F_Mo_touch σ v1) := by
  unfold F_Mo_touch
  refine g_aload_n C D_Mo_touch_0 rfl 0 rfl ?_
  refine g_dup C D_Mo_touch_1 rfl ?_
  refine g_get (ci := 7) C 18 (jz := 18) rfl rfl kI7 rfl (by decide) rfl rfl wf_7_177 rfl D_Mo_touch_2 ?_
  refine g_iconst C D_Mo_touch_5 ⟨by decide, by decide⟩ ?_
  refine g_iadd C D_Mo_touch_6 (fun a1 => ?_)
  refine g_putI (ci := 7) C 18 (jz := 18) rfl rfl kI7 kO7 kN7 rfl (by decide) rfl rfl wf_7_177 D_Mo_touch_7 (fun s2 => ?_)
  refine g_aload_n C D_Mo_touch_10 rfl 0 rfl ?_
  refine g_iload_n C D_Mo_touch_11 rfl 1 rfl ?_
  refine g_callVv (ci := 7) C [.inl v1] [] rfl rfl (fun _ h1 h2 h3 => c_Mo_noteRun h1 h2 h3) rfl rfl wc_7_228 (by decide) (Nat.le_of_ble_eq_true rfl) D_Mo_touch_12 (fun s3 _ => ?_)
  refine g_aload_n C D_Mo_touch_15 rfl 0 rfl ?_
  refine g_getr (ci := 7) C 27 rfl kI7 rfl (by decide) rfl rfl wf_7_75 D_Mo_touch_16 ?_
  refine g_iload_n C D_Mo_touch_19 rfl 1 rfl ?_
  refine g_iconst C D_Mo_touch_20 ⟨by decide, by decide⟩ ?_
  refine g_zast C rfl rfl D_Mo_touch_21 (fun s4 => ?_)
  refine g_aload_n C D_Mo_touch_22 rfl 0 rfl ?_
  refine g_getr (ci := 7) C 26 rfl kI7 rfl (by decide) rfl rfl wf_7_72 D_Mo_touch_23 ?_
  refine g_iload_n C D_Mo_touch_26 rfl 1 rfl ?_
  refine g_iald C rfl rfl rfl D_Mo_touch_27 ?_
  refine g_let C (fun a5 => ?_)
  refine g_istore_n (L' := [(2, .inl a5), (0, .inr (.inr 0)), (1, .inl v1)]) C D_Mo_touch_28 rfl (by decide) rfl ?_
  refine g_iload_n C D_Mo_touch_29 rfl 0 rfl ?_
  refine g_bipush C D_Mo_touch_30 (by decide) ⟨by decide, by decide⟩ ?_
  refine g_icmp_ne (tgt := 160) C D_Mo_touch_32 (by decide) ?_ ?_
  · refine g_sub [1, 0] rfl ?_
    exact wj_Mo_touch_160 C _ _
  · refine g_aload_n C D_Mo_touch_35 rfl 1 rfl ?_
    refine g_getr (ci := 7) C 42 rfl kI7 rfl (by decide) rfl rfl wf_7_112 D_Mo_touch_36 ?_
    refine g_bipush C D_Mo_touch_39 (by decide) ⟨by decide, by decide⟩ ?_
    refine g_dup2 C D_Mo_touch_41 rfl rfl ?_
    refine g_iald C rfl rfl rfl D_Mo_touch_42 ?_
    refine g_iconst C D_Mo_touch_43 ⟨by decide, by decide⟩ ?_
    refine g_iadd C D_Mo_touch_44 (fun a6 => ?_)
    refine g_iast C rfl rfl D_Mo_touch_45 (fun s7 => ?_)
    refine g_aload_n C D_Mo_touch_46 rfl 1 rfl ?_
    refine g_bipush C D_Mo_touch_47 (by decide) ⟨by decide, by decide⟩ ?_
    refine g_bipush C D_Mo_touch_49 (by decide) ⟨by decide, by decide⟩ ?_
    refine g_callVv (ci := 7) C [.inl 6, .inl 20] [] rfl rfl (fun _ h1 h2 h3 => c_Mo_tick h1 h2 h3) rfl rfl wc_7_157 (by decide) (Nat.le_of_ble_eq_true rfl) D_Mo_touch_51 (fun s8 _ => ?_)
    refine g_aload_n C D_Mo_touch_54 rfl 1 rfl ?_
    refine g_callVi (ci := 7) C [] [] (Or.inl rfl) rfl (fun _ h1 h2 h3 => c_Mo_freeFrame h1 h2 h3) rfl rfl wc_7_231 (by decide) (Nat.le_of_ble_eq_true rfl) D_Mo_touch_55 (fun s9 a10 => ?_)
    refine g_istore_n (L' := [(2, .inl a10), (0, .inr (.inr 0)), (1, .inl v1)]) C D_Mo_touch_58 rfl (by decide) rfl ?_
    refine g_iload_n C D_Mo_touch_59 rfl 0 rfl ?_
    refine g_bipush C D_Mo_touch_60 (by decide) ⟨by decide, by decide⟩ ?_
    refine g_icmp_ne (tgt := 76) C D_Mo_touch_62 (by decide) ?_ ?_
    · refine g_sub [1, 2, 0] rfl ?_
      exact wj_Mo_touch_76 C _ _ _
    · refine g_aload_n C D_Mo_touch_65 rfl 1 rfl ?_
      refine g_callVi (ci := 7) C [] [] (Or.inl rfl) rfl (fun _ h1 h2 h3 => c_Mo_whoGoes h1 h2 h3) rfl rfl wc_7_235 (by decide) (Nat.le_of_ble_eq_true rfl) D_Mo_touch_66 (fun s11 a12 => ?_)
      refine g_istore_n (L' := [(2, .inl a12), (0, .inr (.inr 0)), (1, .inl v1)]) C D_Mo_touch_69 rfl (by decide) rfl ?_
      refine g_aload_n C D_Mo_touch_70 rfl 1 rfl ?_
      refine g_iload_n C D_Mo_touch_71 rfl 0 rfl ?_
      refine g_iconst C D_Mo_touch_72 ⟨by decide, by decide⟩ ?_
      refine g_callVv (ci := 7) C [.inl a12, .inl 1] [] rfl rfl (fun _ h1 h2 h3 => c_Mo_goAway h1 h2 h3) rfl rfl wc_7_238 (by decide) (Nat.le_of_ble_eq_true rfl) D_Mo_touch_73 (fun s13 _ => ?_)
      refine g_sub [1, 2, 0] rfl ?_
      exact wj_Mo_touch_76 C _ _ _
theorem c_Mo_touch {σ : gM} {v1 : Int} {r : gR} (ho : F_Mo_touch σ v1 = some r) (hok : gOk [.inr (.inr 0), .inl v1]) (hin : gIn gctM σ) : gCt gctM Y_Mo_touch prog_9_method_41_code 5 (some .int) 6 140 [.inr (.inr 0), .inl v1] σ r := g_entry (by decide) rfl (Nat.le_of_ble_eq_true rfl) ho hok hin (fun X C => w_Mo_touch C σ v1)
theorem D_Mo_frames_0 : decode prog_9_method_42_code 0 = .ok (.iload_n 1, 1) := by decide +kernel
theorem D_Mo_frames_1 : decode prog_9_method_42_code 1 = .ok (.iconst 1, 1) := by decide +kernel
theorem D_Mo_frames_2 : decode prog_9_method_42_code 2 = .ok (.bipush 16, 2) := by decide +kernel
theorem D_Mo_frames_4 : decode prog_9_method_42_code 4 = .ok (.invokestatic 147, 3) := by decide +kernel
theorem D_Mo_frames_7 : decode prog_9_method_42_code 7 = .ok (.ifCond .ne 5, 3) := by decide +kernel
theorem D_Mo_frames_10 : decode prog_9_method_42_code 10 = .ok (.iconst (-1), 1) := by decide +kernel
theorem D_Mo_frames_11 : decode prog_9_method_42_code 11 = .ok (.ireturn, 1) := by decide +kernel
theorem D_Mo_frames_12 : decode prog_9_method_42_code 12 = .ok (.aload_n 0, 1) := by decide +kernel
theorem D_Mo_frames_13 : decode prog_9_method_42_code 13 = .ok (.getfield 57, 3) := by decide +kernel
theorem D_Mo_frames_16 : decode prog_9_method_42_code 16 = .ok (.istore_n 2, 1) := by decide +kernel
theorem D_Mo_frames_17 : decode prog_9_method_42_code 17 = .ok (.iload_n 1, 1) := by decide +kernel
theorem D_Mo_frames_18 : decode prog_9_method_42_code 18 = .ok (.istore_n 3, 1) := by decide +kernel
theorem D_Mo_frames_19 : decode prog_9_method_42_code 19 = .ok (.iload_n 3, 1) := by decide +kernel
theorem D_Mo_frames_20 : decode prog_9_method_42_code 20 = .ok (.bipush 16, 2) := by decide +kernel
theorem D_Mo_frames_22 : decode prog_9_method_42_code 22 = .ok (.if_icmp .ge 26, 3) := by decide +kernel
theorem D_Mo_frames_25 : decode prog_9_method_42_code 25 = .ok (.aload_n 0, 1) := by decide +kernel
theorem D_Mo_frames_26 : decode prog_9_method_42_code 26 = .ok (.getfield 60, 3) := by decide +kernel
theorem D_Mo_frames_29 : decode prog_9_method_42_code 29 = .ok (.iload_n 3, 1) := by decide +kernel
theorem D_Mo_frames_30 : decode prog_9_method_42_code 30 = .ok (.iaload, 1) := by decide +kernel
theorem D_Mo_frames_31 : decode prog_9_method_42_code 31 = .ok (.bipush (-4), 2) := by decide +kernel
theorem D_Mo_frames_33 : decode prog_9_method_42_code 33 = .ok (.if_icmp .eq 9, 3) := by decide +kernel
theorem D_Mo_frames_36 : decode prog_9_method_42_code 36 = .ok (.aload_n 0, 1) := by decide +kernel
theorem D_Mo_frames_37 : decode prog_9_method_42_code 37 = .ok (.iload_n 3, 1) := by decide +kernel
theorem D_Mo_frames_38 : decode prog_9_method_42_code 38 = .ok (.iconst 0, 1) := by decide +kernel
theorem D_Mo_frames_39 : decode prog_9_method_42_code 39 = .ok (.invokevirtual 238, 3) := by decide +kernel
theorem D_Mo_frames_42 : decode prog_9_method_42_code 42 = .ok (.iinc 3 1, 3) := by decide +kernel
theorem D_Mo_frames_45 : decode prog_9_method_42_code 45 = .ok (.goto (-26), 3) := by decide +kernel
theorem D_Mo_frames_48 : decode prog_9_method_42_code 48 = .ok (.aload_n 0, 1) := by decide +kernel
theorem D_Mo_frames_49 : decode prog_9_method_42_code 49 = .ok (.iload_n 1, 1) := by decide +kernel
theorem D_Mo_frames_50 : decode prog_9_method_42_code 50 = .ok (.putfield 57, 3) := by decide +kernel
theorem D_Mo_frames_53 : decode prog_9_method_42_code 53 = .ok (.aload_n 0, 1) := by decide +kernel
theorem D_Mo_frames_54 : decode prog_9_method_42_code 54 = .ok (.iconst 0, 1) := by decide +kernel
theorem D_Mo_frames_55 : decode prog_9_method_42_code 55 = .ok (.putfield 222, 3) := by decide +kernel
theorem D_Mo_frames_58 : decode prog_9_method_42_code 58 = .ok (.iload_n 2, 1) := by decide +kernel
theorem D_Mo_frames_59 : decode prog_9_method_42_code 59 = .ok (.ireturn, 1) := by decide +kernel
def j_Mo_frames_42 (k1 : gM → gO) (rec : gM → Int → gO) (σ : gM) (p1 p2 v3 : Int) : gO :=
  ga (v3 + 1) fun a1 =>
  rec σ a1
set_option maxHeartbeats 4000000 in
theorem wj_Mo_frames_42 {X : gX} (C : gC gctM prog_9_method_42_code kR7 4 6 140 (some .int) X) {p1 p2 : Int} {k1 : gM → gO} (hk1 : ∀ (σ : gM), GG gctM X 48 [(0, .inr (.inr 0)), (1, .inl p1), (2, .inl p2)] [] σ (k1 σ)) {rec : gM → Int → gO} (hrec : ∀ (σ : gM) (a0 : Int), GG gctM X 19 [(0, .inr (.inr 0)), (1, .inl p1), (2, .inl p2), (3, .inl a0)] [] σ (rec σ a0)) (σ : gM) (v3 : Int) : GG gctM X 42 [(0, .inr (.inr 0)), (1, .inl p1), (2, .inl p2), (3, .inl v3)] [] σ (j_Mo_frames_42 k1 rec σ p1 p2 v3) := by
  unfold j_Mo_frames_42
  refine g_iinc (t := 3) (L' := fun z => [(3, .inl z), (0, .inr (.inr 0)), (1, .inl p1), (2, .inl p2)]) C D_Mo_frames_42 rfl (by decide) (fun _ => rfl) (fun a1 => ?_)
  refine g_goto (tgt := 19) C D_Mo_frames_45 (by decide) ?_
  refine g_sub [1, 2, 3, 0] rfl ?_
  exact hrec _ _
def l_Mo_frames_19 (k1 : gM → gO) (p1 p2 : Int) (rec : gM → Int → gO) (σ : gM) (v3 : Int) : gO :=
  if v3 < 16 then
  (gi v3 16 <|
  if (σ 13 v3) = (-4) then
  (j_Mo_frames_42 k1 rec σ p1 p2 v3)
  else
  (gk (F_Mo_goAway σ v3 0) fun s1 _ =>
  j_Mo_frames_42 k1 rec s1 p1 p2 v3))
  else
  (k1 σ)
set_option maxHeartbeats 4000000 in
theorem wl_Mo_frames_19 {X : gX} (C : gC gctM prog_9_method_42_code kR7 4 6 140 (some .int) X) {p1 p2 : Int} {k1 : gM → gO} (hk1 : ∀ (σ : gM), GG gctM X 48 [(0, .inr (.inr 0)), (1, .inl p1), (2, .inl p2)] [] σ (k1 σ)) : ∀ (n : Nat) (σ : gM) (a0 : Int), GG gctM X 19 [(0, .inr (.inr 0)), (1, .inl p1), (2, .inl p2), (3, .inl a0)] [] σ (gl1 (l_Mo_frames_19 k1 p1 p2) n σ a0) := by
  refine gl1_run (P := fun σ a0 o => GG gctM X 19 [(0, .inr (.inr 0)), (1, .inl p1), (2, .inl p2), (3, .inl a0)] [] σ o) (fun _ _ => g_none) (fun rec hrec σ v3 => ?_)
  unfold l_Mo_frames_19
  refine g_iload_n C D_Mo_frames_19 rfl 3 rfl ?_
  refine g_bipush C D_Mo_frames_20 (by decide) ⟨by decide, by decide⟩ ?_
  refine g_icmp_ge (tgt := 48) C D_Mo_frames_22 (by decide) ?_ ?_
  · refine g_sub [0, 1, 2] rfl ?_
    exact hk1 _
  · refine g_aload_n C D_Mo_frames_25 rfl 0 rfl ?_
    refine g_getr (ci := 7) C 22 rfl kI7 rfl (by decide) rfl rfl wf_7_60 D_Mo_frames_26 ?_
    refine g_iload_n C D_Mo_frames_29 rfl 3 rfl ?_
    refine g_iald C rfl rfl rfl D_Mo_frames_30 ?_
    refine g_bipush C D_Mo_frames_31 (by decide) ⟨by decide, by decide⟩ ?_
    refine g_icmp_eq (tgt := 42) C D_Mo_frames_33 (by decide) ?_ ?_
    · exact wj_Mo_frames_42 C hk1 hrec _ _
    · refine g_aload_n C D_Mo_frames_36 rfl 0 rfl ?_
      refine g_iload_n C D_Mo_frames_37 rfl 3 rfl ?_
      refine g_iconst C D_Mo_frames_38 ⟨by decide, by decide⟩ ?_
      refine g_callVv (ci := 7) C [.inl v3, .inl 0] [] rfl rfl (fun _ h1 h2 h3 => c_Mo_goAway h1 h2 h3) rfl rfl wc_7_238 (by decide) (Nat.le_of_ble_eq_true rfl) D_Mo_frames_39 (fun s1 _ => ?_)
      exact wj_Mo_frames_42 C hk1 hrec _ _
def F_Mo_frames (σ : gM) (v1 : Int) : gO :=
  gk (F_Mo_in σ v1 1 16) fun s1 a2 =>
  if a2 = 0 then
  (some (s1, (-1)))
  else
  (gv (s1 0 19) fun a3 =>
  gl1 (l_Mo_frames_19 (fun s4 => gp s4 0 19 v1 fun s5 =>
  gp s5 0 21 0 fun s6 =>
  some (s6, a3)) v1 a3) 200 s1 v1)
set_option maxHeartbeats 4000000 in
theorem w_Mo_frames {X : gX} (C : gC gctM prog_9_method_42_code kR7 4 6 140 (some .int) X) (σ : gM) (v1 : Int) : GG gctM X 0 [(0, .inr (.inr 0)), (1, .inl v1)] [] σ (F_Mo_frames σ v1) := by
  unfold F_Mo_frames
  refine g_iload_n C D_Mo_frames_0 rfl 1 rfl ?_
  refine g_iconst C D_Mo_frames_1 ⟨by decide, by decide⟩ ?_
  refine g_bipush C D_Mo_frames_2 (by decide) ⟨by decide, by decide⟩ ?_
  refine g_callSi C [.inl v1, .inl 1, .inl 16] [] (Or.inr rfl) rfl (fun _ h1 h2 h3 => c_Mo_in h1 h2 h3) wc_7_147 (by decide) (Nat.le_of_ble_eq_true rfl) D_Mo_frames_4 (fun s1 a2 => ?_)
  refine g_if_ne (tgt := 12) C D_Mo_frames_7 (by decide) ?_ ?_
  · refine g_aload_n C D_Mo_frames_12 rfl 0 rfl ?_
    refine g_get (ci := 7) C 19 (jz := 19) rfl rfl kI7 rfl (by decide) rfl rfl wf_7_57 rfl D_Mo_frames_13 ?_
    refine g_let C (fun a3 => ?_)
    refine g_istore_n (L' := [(2, .inl a3), (0, .inr (.inr 0)), (1, .inl v1)]) C D_Mo_frames_16 rfl (by decide) rfl ?_
    refine g_iload_n C D_Mo_frames_17 rfl 2 rfl ?_
    refine g_istore_n (L' := [(3, .inl v1), (2, .inl a3), (0, .inr (.inr 0)), (1, .inl v1)]) C D_Mo_frames_18 rfl (by decide) rfl ?_
    refine g_sub [2, 3, 1, 0] rfl ?_
    exact wl_Mo_frames_19 C (fun s4 => by
        refine g_aload_n C D_Mo_frames_48 rfl 0 rfl ?_
        refine g_iload_n C D_Mo_frames_49 rfl 1 rfl ?_
        refine g_putI (ci := 7) C 19 (jz := 19) rfl rfl kI7 kO7 kN7 rfl (by decide) rfl rfl wf_7_57 D_Mo_frames_50 (fun s5 => ?_)
        refine g_aload_n C D_Mo_frames_53 rfl 0 rfl ?_
        refine g_iconst C D_Mo_frames_54 ⟨by decide, by decide⟩ ?_
        refine g_putI (ci := 7) C 21 (jz := 21) rfl rfl kI7 kO7 kN7 rfl (by decide) rfl rfl wf_7_222 D_Mo_frames_55 (fun s6 => ?_)
        refine g_iload_n C D_Mo_frames_58 rfl 2 rfl ?_
        exact g_iret C D_Mo_frames_59) 200 _ _
  · refine g_iconst C D_Mo_frames_10 ⟨by decide, by decide⟩ ?_
    exact g_iret C D_Mo_frames_11
theorem c_Mo_frames {σ : gM} {v1 : Int} {r : gR} (ho : F_Mo_frames σ v1 = some r) (hok : gOk [.inr (.inr 0), .inl v1]) (hin : gIn gctM σ) : gCt gctM Y_Mo_frames prog_9_method_42_code 4 (some .int) 6 140 [.inr (.inr 0), .inl v1] σ r := g_entry (by decide) rfl (Nat.le_of_ble_eq_true rfl) ho hok hin (fun X C => w_Mo_frames C σ v1)
theorem D_Mo_page_0 : decode prog_9_method_43_code 0 = .ok (.iload_n 1, 1) := by decide +kernel
theorem D_Mo_page_1 : decode prog_9_method_43_code 1 = .ok (.iconst 0, 1) := by decide +kernel
theorem D_Mo_page_2 : decode prog_9_method_43_code 2 = .ok (.bipush 31, 2) := by decide +kernel
theorem D_Mo_page_4 : decode prog_9_method_43_code 4 = .ok (.invokestatic 147, 3) := by decide +kernel
theorem D_Mo_page_7 : decode prog_9_method_43_code 7 = .ok (.ifCond .eq 12, 3) := by decide +kernel
theorem D_Mo_page_10 : decode prog_9_method_43_code 10 = .ok (.iload_n 2, 1) := by decide +kernel
theorem D_Mo_page_11 : decode prog_9_method_43_code 11 = .ok (.iconst 0, 1) := by decide +kernel
theorem D_Mo_page_12 : decode prog_9_method_43_code 12 = .ok (.iconst 1, 1) := by decide +kernel
theorem D_Mo_page_13 : decode prog_9_method_43_code 13 = .ok (.invokestatic 147, 3) := by decide +kernel
theorem D_Mo_page_16 : decode prog_9_method_43_code 16 = .ok (.ifCond .ne 5, 3) := by decide +kernel
theorem D_Mo_page_19 : decode prog_9_method_43_code 19 = .ok (.iconst (-1), 1) := by decide +kernel
theorem D_Mo_page_20 : decode prog_9_method_43_code 20 = .ok (.ireturn, 1) := by decide +kernel
theorem D_Mo_page_21 : decode prog_9_method_43_code 21 = .ok (.iload_n 2, 1) := by decide +kernel
theorem D_Mo_page_22 : decode prog_9_method_43_code 22 = .ok (.ifCond .ne 12, 3) := by decide +kernel
theorem D_Mo_page_25 : decode prog_9_method_43_code 25 = .ok (.aload_n 0, 1) := by decide +kernel
theorem D_Mo_page_26 : decode prog_9_method_43_code 26 = .ok (.getfield 72, 3) := by decide +kernel
theorem D_Mo_page_29 : decode prog_9_method_43_code 29 = .ok (.iload_n 1, 1) := by decide +kernel
theorem D_Mo_page_30 : decode prog_9_method_43_code 30 = .ok (.iaload, 1) := by decide +kernel
theorem D_Mo_page_31 : decode prog_9_method_43_code 31 = .ok (.goto 17, 3) := by decide +kernel
theorem D_Mo_page_34 : decode prog_9_method_43_code 34 = .ok (.aload_n 0, 1) := by decide +kernel
theorem D_Mo_page_35 : decode prog_9_method_43_code 35 = .ok (.getfield 75, 3) := by decide +kernel
theorem D_Mo_page_38 : decode prog_9_method_43_code 38 = .ok (.iload_n 1, 1) := by decide +kernel
theorem D_Mo_page_39 : decode prog_9_method_43_code 39 = .ok (.baload, 1) := by decide +kernel
theorem D_Mo_page_40 : decode prog_9_method_43_code 40 = .ok (.ifCond .eq 7, 3) := by decide +kernel
theorem D_Mo_page_43 : decode prog_9_method_43_code 43 = .ok (.iconst 1, 1) := by decide +kernel
theorem D_Mo_page_44 : decode prog_9_method_43_code 44 = .ok (.goto 4, 3) := by decide +kernel
theorem D_Mo_page_47 : decode prog_9_method_43_code 47 = .ok (.iconst 0, 1) := by decide +kernel
theorem D_Mo_page_48 : decode prog_9_method_43_code 48 = .ok (.ireturn, 1) := by decide +kernel
def j_Mo_page_19 (σ : gM) : gO :=
  some (σ, (-1))
set_option maxHeartbeats 4000000 in
theorem wj_Mo_page_19 {X : gX} (C : gC gctM prog_9_method_43_code kR7 3 1 22 (some .int) X) (σ : gM) : GG gctM X 19 [] [] σ (j_Mo_page_19 σ) := by
  unfold j_Mo_page_19
  refine g_iconst C D_Mo_page_19 ⟨by decide, by decide⟩ ?_
  exact g_iret C D_Mo_page_20
def j_Mo_page_48 (σ : gM) (t0 : Int) : gO :=
  some (σ, t0)
set_option maxHeartbeats 4000000 in
theorem wj_Mo_page_48 {X : gX} (C : gC gctM prog_9_method_43_code kR7 3 1 22 (some .int) X) (σ : gM) (t0 : Int) : GG gctM X 48 [] [.inl t0] σ (j_Mo_page_48 σ t0) := by
  unfold j_Mo_page_48
  exact g_iret C D_Mo_page_48
def F_Mo_page (σ : gM) (v1 v2 : Int) : gO :=
  gk (F_Mo_in σ v1 0 31) fun s1 a2 =>
  if a2 = 0 then
  (j_Mo_page_19 s1)
  else
  (gk (F_Mo_in s1 v2 0 1) fun s3 a4 =>
  if a4 = 0 then
  (j_Mo_page_19 s3)
  else
  (if v2 = 0 then
  (gi v1 32 <|
  j_Mo_page_48 s3 (s3 17 v1))
  else
  (gi v1 32 <|
  if (s3 18 v1) = 0 then
  (j_Mo_page_48 s3 0)
  else
  (j_Mo_page_48 s3 1))))
set_option maxHeartbeats 4000000 in
theorem w_Mo_page {X : gX} (C : gC gctM prog_9_method_43_code kR7 3 1 22 (some .int) X) (σ : gM) (v1 v2 : Int) : GG gctM X 0 [(0, .inr (.inr 0)), (1, .inl v1), (2, .inl v2)] [] σ (F_Mo_page σ v1 v2) := by
  unfold F_Mo_page
  refine g_iload_n C D_Mo_page_0 rfl 1 rfl ?_
  refine g_iconst C D_Mo_page_1 ⟨by decide, by decide⟩ ?_
  refine g_bipush C D_Mo_page_2 (by decide) ⟨by decide, by decide⟩ ?_
  refine g_callSi C [.inl v1, .inl 0, .inl 31] [] (Or.inr rfl) rfl (fun _ h1 h2 h3 => c_Mo_in h1 h2 h3) wc_7_147 (by decide) (Nat.le_of_ble_eq_true rfl) D_Mo_page_4 (fun s1 a2 => ?_)
  refine g_if_eq (tgt := 19) C D_Mo_page_7 (by decide) ?_ ?_
  · refine g_sub [] rfl ?_
    exact wj_Mo_page_19 C _
  · refine g_iload_n C D_Mo_page_10 rfl 2 rfl ?_
    refine g_iconst C D_Mo_page_11 ⟨by decide, by decide⟩ ?_
    refine g_iconst C D_Mo_page_12 ⟨by decide, by decide⟩ ?_
    refine g_callSi C [.inl v2, .inl 0, .inl 1] [] (Or.inr rfl) rfl (fun _ h1 h2 h3 => c_Mo_in h1 h2 h3) wc_7_147 (by decide) (Nat.le_of_ble_eq_true rfl) D_Mo_page_13 (fun s3 a4 => ?_)
    refine g_if_ne (tgt := 21) C D_Mo_page_16 (by decide) ?_ ?_
    · refine g_iload_n C D_Mo_page_21 rfl 2 rfl ?_
      refine g_if_ne (tgt := 34) C D_Mo_page_22 (by decide) ?_ ?_
      · refine g_aload_n C D_Mo_page_34 rfl 0 rfl ?_
        refine g_getr (ci := 7) C 27 rfl kI7 rfl (by decide) rfl rfl wf_7_75 D_Mo_page_35 ?_
        refine g_iload_n C D_Mo_page_38 rfl 1 rfl ?_
        refine g_zald C rfl rfl rfl D_Mo_page_39 ?_
        refine g_if_eq (tgt := 47) C D_Mo_page_40 (by decide) ?_ ?_
        · refine g_iconst C D_Mo_page_47 ⟨by decide, by decide⟩ ?_
          refine g_sub [] rfl ?_
          exact wj_Mo_page_48 C _ _
        · refine g_iconst C D_Mo_page_43 ⟨by decide, by decide⟩ ?_
          refine g_goto (tgt := 48) C D_Mo_page_44 (by decide) ?_
          refine g_sub [] rfl ?_
          exact wj_Mo_page_48 C _ _
      · refine g_aload_n C D_Mo_page_25 rfl 0 rfl ?_
        refine g_getr (ci := 7) C 26 rfl kI7 rfl (by decide) rfl rfl wf_7_72 D_Mo_page_26 ?_
        refine g_iload_n C D_Mo_page_29 rfl 1 rfl ?_
        refine g_iald C rfl rfl rfl D_Mo_page_30 ?_
        refine g_goto (tgt := 48) C D_Mo_page_31 (by decide) ?_
        refine g_sub [] rfl ?_
        exact wj_Mo_page_48 C _ _
    · refine g_sub [] rfl ?_
      exact wj_Mo_page_19 C _
theorem c_Mo_page {σ : gM} {v1 v2 : Int} {r : gR} (ho : F_Mo_page σ v1 v2 = some r) (hok : gOk [.inr (.inr 0), .inl v1, .inl v2]) (hin : gIn gctM σ) : gCt gctM Y_Mo_page prog_9_method_43_code 3 (some .int) 1 22 [.inr (.inr 0), .inl v1, .inl v2] σ r := g_entry (by decide) rfl (Nat.le_of_ble_eq_true rfl) ho hok hin (fun X C => w_Mo_page C σ v1 v2)
