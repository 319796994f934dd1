/-! by program: functions of the methods and their walks: Mo_put, Mo_hold, Mo_gather, Mo_about, Mo_room, Mo_blame, Mo_count -/
theorem D_Mo_put_0 : decode prog_9_method_60_code 0 = .ok (.iload_n 1, 1) := by decide +kernel
theorem D_Mo_put_1 : decode prog_9_method_60_code 1 = .ok (.iconst 0, 1) := by decide +kernel
theorem D_Mo_put_2 : decode prog_9_method_60_code 2 = .ok (.iconst 1, 1) := by decide +kernel
theorem D_Mo_put_3 : decode prog_9_method_60_code 3 = .ok (.invokestatic 147, 3) := by decide +kernel
theorem D_Mo_put_6 : decode prog_9_method_60_code 6 = .ok (.ifCond .eq 39, 3) := by decide +kernel
theorem D_Mo_put_9 : decode prog_9_method_60_code 9 = .ok (.aload_n 0, 1) := by decide +kernel
theorem D_Mo_put_10 : decode prog_9_method_60_code 10 = .ok (.iload_n 2, 1) := by decide +kernel
theorem D_Mo_put_11 : decode prog_9_method_60_code 11 = .ok (.invokevirtual 296, 3) := by decide +kernel
theorem D_Mo_put_14 : decode prog_9_method_60_code 14 = .ok (.ifCond .eq 31, 3) := by decide +kernel
theorem D_Mo_put_17 : decode prog_9_method_60_code 17 = .ok (.iload_n 3, 1) := by decide +kernel
theorem D_Mo_put_18 : decode prog_9_method_60_code 18 = .ok (.iconst 0, 1) := by decide +kernel
theorem D_Mo_put_19 : decode prog_9_method_60_code 19 = .ok (.aload_n 0, 1) := by decide +kernel
theorem D_Mo_put_20 : decode prog_9_method_60_code 20 = .ok (.getfield 90, 3) := by decide +kernel
theorem D_Mo_put_23 : decode prog_9_method_60_code 23 = .ok (.iload_n 2, 1) := by decide +kernel
theorem D_Mo_put_24 : decode prog_9_method_60_code 24 = .ok (.iaload, 1) := by decide +kernel
theorem D_Mo_put_25 : decode prog_9_method_60_code 25 = .ok (.iconst 1, 1) := by decide +kernel
theorem D_Mo_put_26 : decode prog_9_method_60_code 26 = .ok (.isub, 1) := by decide +kernel
theorem D_Mo_put_27 : decode prog_9_method_60_code 27 = .ok (.invokestatic 147, 3) := by decide +kernel
theorem D_Mo_put_30 : decode prog_9_method_60_code 30 = .ok (.ifCond .eq 15, 3) := by decide +kernel
theorem D_Mo_put_33 : decode prog_9_method_60_code 33 = .ok (.iload 4, 2) := by decide +kernel
theorem D_Mo_put_35 : decode prog_9_method_60_code 35 = .ok (.iconst 0, 1) := by decide +kernel
theorem D_Mo_put_36 : decode prog_9_method_60_code 36 = .ok (.sipush 167, 3) := by decide +kernel
theorem D_Mo_put_39 : decode prog_9_method_60_code 39 = .ok (.invokestatic 147, 3) := by decide +kernel
theorem D_Mo_put_42 : decode prog_9_method_60_code 42 = .ok (.ifCond .ne 5, 3) := by decide +kernel
theorem D_Mo_put_45 : decode prog_9_method_60_code 45 = .ok (.iconst (-1), 1) := by decide +kernel
theorem D_Mo_put_46 : decode prog_9_method_60_code 46 = .ok (.ireturn, 1) := by decide +kernel
theorem D_Mo_put_47 : decode prog_9_method_60_code 47 = .ok (.iload 4, 2) := by decide +kernel
theorem D_Mo_put_49 : decode prog_9_method_60_code 49 = .ok (.bipush 127, 2) := by decide +kernel
theorem D_Mo_put_51 : decode prog_9_method_60_code 51 = .ok (.if_icmp .le 20, 3) := by decide +kernel
theorem D_Mo_put_54 : decode prog_9_method_60_code 54 = .ok (.aload_n 0, 1) := by decide +kernel
theorem D_Mo_put_55 : decode prog_9_method_60_code 55 = .ok (.getfield 84, 3) := by decide +kernel
theorem D_Mo_put_58 : decode prog_9_method_60_code 58 = .ok (.iload 4, 2) := by decide +kernel
theorem D_Mo_put_60 : decode prog_9_method_60_code 60 = .ok (.sipush 128, 3) := by decide +kernel
theorem D_Mo_put_63 : decode prog_9_method_60_code 63 = .ok (.isub, 1) := by decide +kernel
theorem D_Mo_put_64 : decode prog_9_method_60_code 64 = .ok (.baload, 1) := by decide +kernel
theorem D_Mo_put_65 : decode prog_9_method_60_code 65 = .ok (.ifCond .ne 6, 3) := by decide +kernel
theorem D_Mo_put_68 : decode prog_9_method_60_code 68 = .ok (.bipush (-2), 2) := by decide +kernel
theorem D_Mo_put_70 : decode prog_9_method_60_code 70 = .ok (.ireturn, 1) := by decide +kernel
theorem D_Mo_put_71 : decode prog_9_method_60_code 71 = .ok (.aload_n 0, 1) := by decide +kernel
theorem D_Mo_put_72 : decode prog_9_method_60_code 72 = .ok (.invokevirtual 262, 3) := by decide +kernel
theorem D_Mo_put_75 : decode prog_9_method_60_code 75 = .ok (.lstore 5, 2) := by decide +kernel
theorem D_Mo_put_77 : decode prog_9_method_60_code 77 = .ok (.aload_n 0, 1) := by decide +kernel
theorem D_Mo_put_78 : decode prog_9_method_60_code 78 = .ok (.iload_n 1, 1) := by decide +kernel
theorem D_Mo_put_79 : decode prog_9_method_60_code 79 = .ok (.aload_n 0, 1) := by decide +kernel
theorem D_Mo_put_80 : decode prog_9_method_60_code 80 = .ok (.getfield 87, 3) := by decide +kernel
theorem D_Mo_put_83 : decode prog_9_method_60_code 83 = .ok (.iload_n 2, 1) := by decide +kernel
theorem D_Mo_put_84 : decode prog_9_method_60_code 84 = .ok (.iaload, 1) := by decide +kernel
theorem D_Mo_put_85 : decode prog_9_method_60_code 85 = .ok (.iload_n 3, 1) := by decide +kernel
theorem D_Mo_put_86 : decode prog_9_method_60_code 86 = .ok (.iadd, 1) := by decide +kernel
theorem D_Mo_put_87 : decode prog_9_method_60_code 87 = .ok (.iload 4, 2) := by decide +kernel
theorem D_Mo_put_89 : decode prog_9_method_60_code 89 = .ok (.invokevirtual 266, 3) := by decide +kernel
theorem D_Mo_put_92 : decode prog_9_method_60_code 92 = .ok (.aload_n 0, 1) := by decide +kernel
theorem D_Mo_put_93 : decode prog_9_method_60_code 93 = .ok (.getfield 99, 3) := by decide +kernel
theorem D_Mo_put_96 : decode prog_9_method_60_code 96 = .ok (.iload_n 2, 1) := by decide +kernel
theorem D_Mo_put_97 : decode prog_9_method_60_code 97 = .ok (.dup2, 1) := by decide +kernel
theorem D_Mo_put_98 : decode prog_9_method_60_code 98 = .ok (.laload, 1) := by decide +kernel
theorem D_Mo_put_99 : decode prog_9_method_60_code 99 = .ok (.aload_n 0, 1) := by decide +kernel
theorem D_Mo_put_100 : decode prog_9_method_60_code 100 = .ok (.invokevirtual 262, 3) := by decide +kernel
theorem D_Mo_put_103 : decode prog_9_method_60_code 103 = .ok (.lload 5, 2) := by decide +kernel
theorem D_Mo_put_105 : decode prog_9_method_60_code 105 = .ok (.lsub, 1) := by decide +kernel
theorem D_Mo_put_106 : decode prog_9_method_60_code 106 = .ok (.ladd, 1) := by decide +kernel
theorem D_Mo_put_107 : decode prog_9_method_60_code 107 = .ok (.lastore, 1) := by decide +kernel
theorem D_Mo_put_108 : decode prog_9_method_60_code 108 = .ok (.aload_n 0, 1) := by decide +kernel
theorem D_Mo_put_109 : decode prog_9_method_60_code 109 = .ok (.invokevirtual 262, 3) := by decide +kernel
theorem D_Mo_put_112 : decode prog_9_method_60_code 112 = .ok (.lload 5, 2) := by decide +kernel
theorem D_Mo_put_114 : decode prog_9_method_60_code 114 = .ok (.lsub, 1) := by decide +kernel
theorem D_Mo_put_115 : decode prog_9_method_60_code 115 = .ok (.l2i, 1) := by decide +kernel
theorem D_Mo_put_116 : decode prog_9_method_60_code 116 = .ok (.ireturn, 1) := by decide +kernel
def j_Mo_put_45 (σ : gM) : gO :=
  some (σ, (-1))
set_option maxHeartbeats 4000000 in
theorem wj_Mo_put_45 {X : gX} (C : gC gctM prog_9_method_60_code kR7 7 9 216 (some .int) X) (σ : gM) : GG gctM X 45 [] [] σ (j_Mo_put_45 σ) := by
  unfold j_Mo_put_45
  refine g_iconst C D_Mo_put_45 ⟨by decide, by decide⟩ ?_
  exact g_iret C D_Mo_put_46
def j_Mo_put_71 (σ : gM) (v1 v2 v3 v4 : Int) : gO :=
  gk (F_Mo_allTicks σ) fun s1 a2 =>
  gi v2 40 <|
  ga ((s1 22 v2) + v3) fun a3 =>
  gk (F_Mo_saveByte s1 v1 a3 v4) fun s4 _ =>
  gi v2 40 <|
  gk (F_Mo_allTicks s4) fun s5 a6 =>
  gal (a6 - a2) fun a7 =>
  gal ((s4 26 v2) + a7) fun a8 =>
  gw s5 26 40 v2 a8 fun s9 =>
  gk (F_Mo_allTicks s9) fun s10 a11 =>
  gal (a11 - a2) fun a12 =>
  ga a12 fun a13 =>
  some (s10, a13)
set_option maxHeartbeats 4000000 in
theorem wj_Mo_put_71 {X : gX} (C : gC gctM prog_9_method_60_code kR7 7 9 216 (some .int) X) (σ : gM) (v1 v2 v3 v4 : Int) : GG gctM X 71 [(0, .inr (.inr 0)), (1, .inl v1), (2, .inl v2), (3, .inl v3), (4, .inl v4)] [] σ (j_Mo_put_71 σ v1 v2 v3 v4) := by
  unfold j_Mo_put_71
  refine g_aload_n C D_Mo_put_71 rfl 0 rfl ?_
  refine g_callVl (ci := 7) C [] [] rfl rfl (fun _ h1 h2 h3 => c_Mo_allTicks h1 h2 h3) rfl rfl wc_7_262 (by decide) (Nat.le_of_ble_eq_true rfl) D_Mo_put_72 (fun s1 a2 => ?_)
  refine g_lstore (L' := [(5, .inr (.inl a2)), (0, .inr (.inr 0)), (1, .inl v1), (2, .inl v2), (3, .inl v3), (4, .inl v4)]) C D_Mo_put_75 (by decide) rfl ?_
  refine g_aload_n C D_Mo_put_77 rfl 1 rfl ?_
  refine g_iload_n C D_Mo_put_78 rfl 2 rfl ?_
  refine g_aload_n C D_Mo_put_79 rfl 1 rfl ?_
  refine g_getr (ci := 7) C 33 rfl kI7 rfl (by decide) rfl rfl wf_7_87 D_Mo_put_80 ?_
  refine g_iload_n C D_Mo_put_83 rfl 3 rfl ?_
  refine g_iald C rfl rfl rfl D_Mo_put_84 ?_
  refine g_iload_n C D_Mo_put_85 rfl 4 rfl ?_
  refine g_iadd C D_Mo_put_86 (fun a3 => ?_)
  refine g_iload C D_Mo_put_87 5 rfl ?_
  refine g_callVv (ci := 7) C [.inl v1, .inl a3, .inl v4] [] rfl rfl (fun _ h1 h2 h3 => c_Mo_saveByte h1 h2 h3) rfl rfl wc_7_266 (by decide) (Nat.le_of_ble_eq_true rfl) D_Mo_put_89 (fun s4 _ => ?_)
  refine g_aload_n C D_Mo_put_92 rfl 1 rfl ?_
  refine g_getr (ci := 7) C 37 rfl kI7 rfl (by decide) rfl rfl wf_7_99 D_Mo_put_93 ?_
  refine g_iload_n C D_Mo_put_96 rfl 3 rfl ?_
  refine g_dup2 C D_Mo_put_97 rfl rfl ?_
  refine g_lald C rfl rfl D_Mo_put_98 ?_
  refine g_aload_n C D_Mo_put_99 rfl 1 rfl ?_
  refine g_callVl (ci := 7) C [] [.inr (.inl (s4 26 v2)), .inl v2, .inr (.inr 26)] rfl rfl (fun _ h1 h2 h3 => c_Mo_allTicks h1 h2 h3) rfl rfl wc_7_262 (by decide) (Nat.le_of_ble_eq_true rfl) D_Mo_put_100 (fun s5 a6 => ?_)
  refine g_lload C D_Mo_put_103 0 rfl ?_
  refine g_lsub C D_Mo_put_105 (fun a7 => ?_)
  refine g_ladd C D_Mo_put_106 (fun a8 => ?_)
  refine g_last C rfl rfl rfl D_Mo_put_107 (fun s9 => ?_)
  refine g_aload_n C D_Mo_put_108 rfl 1 rfl ?_
  refine g_callVl (ci := 7) C [] [] rfl rfl (fun _ h1 h2 h3 => c_Mo_allTicks h1 h2 h3) rfl rfl wc_7_262 (by decide) (Nat.le_of_ble_eq_true rfl) D_Mo_put_109 (fun s10 a11 => ?_)
  refine g_lload C D_Mo_put_112 0 rfl ?_
  refine g_lsub C D_Mo_put_114 (fun a12 => ?_)
  refine g_l2i C D_Mo_put_115 (fun a13 => ?_)
  exact g_iret C D_Mo_put_116
def F_Mo_put (σ : gM) (v1 v2 v3 v4 : Int) : gO :=
  gk (F_Mo_in σ v1 0 1) fun s1 a2 =>
  if a2 = 0 then
  (j_Mo_put_45 s1)
  else
  (gk (F_Mo_isObject s1 v2) fun s3 a4 =>
  if a4 = 0 then
  (j_Mo_put_45 s3)
  else
  (gi v2 40 <|
  ga ((s3 23 v2) - 1) fun a5 =>
  gk (F_Mo_in s3 v3 0 a5) fun s6 a7 =>
  if a7 = 0 then
  (j_Mo_put_45 s6)
  else
  (gk (F_Mo_in s6 v4 0 167) fun s8 a9 =>
  if a9 = 0 then
  (j_Mo_put_45 s8)
  else
  (if 127 < v4 then
  (ga (v4 - 128) fun a10 =>
  gi a10 40 <|
  if (s8 21 a10) = 0 then
  (some (s8, (-2)))
  else
  (j_Mo_put_71 s8 v1 v2 v3 v4))
  else
  (j_Mo_put_71 s8 v1 v2 v3 v4)))))
set_option maxHeartbeats 4000000 in
theorem w_Mo_put {X : gX} (C : gC gctM prog_9_method_60_code kR7 7 9 216 (some .int) X) (σ : gM) (v1 v2 v3 v4 : Int) : GG gctM X 0 [(0, .inr (.inr 0)), (1, .inl v1), (2, .inl v2), (3, .inl v3), (4, .inl v4)] [] σ (F_Mo_put σ v1 v2 v3 v4) := by
  unfold F_Mo_put
  refine g_iload_n C D_Mo_put_0 rfl 1 rfl ?_
  refine g_iconst C D_Mo_put_1 ⟨by decide, by decide⟩ ?_
  refine g_iconst C D_Mo_put_2 ⟨by decide, by decide⟩ ?_
  refine g_callSi C [.inl v1, .inl 0, .inl 1] [] (Or.inr rfl) rfl (fun _ h1 h2 h3 => c_Mo_in h1 h2 h3) wc_7_147 (by decide) (Nat.le_of_ble_eq_true rfl) D_Mo_put_3 (fun s1 a2 => ?_)
  refine g_if_eq (tgt := 45) C D_Mo_put_6 (by decide) ?_ ?_
  · refine g_sub [] rfl ?_
    exact wj_Mo_put_45 C _
  · refine g_aload_n C D_Mo_put_9 rfl 0 rfl ?_
    refine g_iload_n C D_Mo_put_10 rfl 2 rfl ?_
    refine g_callVi (ci := 7) C [.inl v2] [] (Or.inr rfl) rfl (fun _ h1 h2 h3 => c_Mo_isObject h1 h2 h3) rfl rfl wc_7_296 (by decide) (Nat.le_of_ble_eq_true rfl) D_Mo_put_11 (fun s3 a4 => ?_)
    refine g_if_eq (tgt := 45) C D_Mo_put_14 (by decide) ?_ ?_
    · refine g_sub [] rfl ?_
      exact wj_Mo_put_45 C _
    · refine g_iload_n C D_Mo_put_17 rfl 3 rfl ?_
      refine g_iconst C D_Mo_put_18 ⟨by decide, by decide⟩ ?_
      refine g_aload_n C D_Mo_put_19 rfl 0 rfl ?_
      refine g_getr (ci := 7) C 34 rfl kI7 rfl (by decide) rfl rfl wf_7_90 D_Mo_put_20 ?_
      refine g_iload_n C D_Mo_put_23 rfl 2 rfl ?_
      refine g_iald C rfl rfl rfl D_Mo_put_24 ?_
      refine g_iconst C D_Mo_put_25 ⟨by decide, by decide⟩ ?_
      refine g_isub C D_Mo_put_26 (fun a5 => ?_)
      refine g_callSi C [.inl v3, .inl 0, .inl a5] [] (Or.inr rfl) rfl (fun _ h1 h2 h3 => c_Mo_in h1 h2 h3) wc_7_147 (by decide) (Nat.le_of_ble_eq_true rfl) D_Mo_put_27 (fun s6 a7 => ?_)
      refine g_if_eq (tgt := 45) C D_Mo_put_30 (by decide) ?_ ?_
      · refine g_sub [] rfl ?_
        exact wj_Mo_put_45 C _
      · refine g_iload C D_Mo_put_33 4 rfl ?_
        refine g_iconst C D_Mo_put_35 ⟨by decide, by decide⟩ ?_
        refine g_sipush C D_Mo_put_36 (by decide) ⟨by decide, by decide⟩ ?_
        refine g_callSi C [.inl v4, .inl 0, .inl 167] [] (Or.inr rfl) rfl (fun _ h1 h2 h3 => c_Mo_in h1 h2 h3) wc_7_147 (by decide) (Nat.le_of_ble_eq_true rfl) D_Mo_put_39 (fun s8 a9 => ?_)
        refine g_if_ne (tgt := 47) C D_Mo_put_42 (by decide) ?_ ?_
        · refine g_iload C D_Mo_put_47 4 rfl ?_
          refine g_bipush C D_Mo_put_49 (by decide) ⟨by decide, by decide⟩ ?_
          refine g_icmp_le (tgt := 71) C D_Mo_put_51 (by decide) ?_ ?_
          · exact wj_Mo_put_71 C _ _ _ _ _
          · refine g_aload_n C D_Mo_put_54 rfl 0 rfl ?_
            refine g_getr (ci := 7) C 32 rfl kI7 rfl (by decide) rfl rfl wf_7_84 D_Mo_put_55 ?_
            refine g_iload C D_Mo_put_58 4 rfl ?_
            refine g_sipush C D_Mo_put_60 (by decide) ⟨by decide, by decide⟩ ?_
            refine g_isub C D_Mo_put_63 (fun a10 => ?_)
            refine g_zald C rfl rfl rfl D_Mo_put_64 ?_
            refine g_if_ne (tgt := 71) C D_Mo_put_65 (by decide) ?_ ?_
            · exact wj_Mo_put_71 C _ _ _ _ _
            · refine g_bipush C D_Mo_put_68 (by decide) ⟨by decide, by decide⟩ ?_
              exact g_iret C D_Mo_put_70
        · refine g_sub [] rfl ?_
          exact wj_Mo_put_45 C _
theorem c_Mo_put {σ : gM} {v1 v2 v3 v4 : Int} {r : gR} (ho : F_Mo_put σ v1 v2 v3 v4 = some r) (hok : gOk [.inr (.inr 0), .inl v1, .inl v2, .inl v3, .inl v4]) (hin : gIn gctM σ) : gCt gctM Y_Mo_put prog_9_method_60_code 7 (some .int) 9 216 [.inr (.inr 0), .inl v1, .inl v2, .inl v3, .inl v4] σ r := g_entry (by decide) rfl (Nat.le_of_ble_eq_true rfl) ho hok hin (fun X C => w_Mo_put C σ v1 v2 v3 v4)
theorem D_Mo_hold_0 : decode prog_9_method_61_code 0 = .ok (.iload_n 2, 1) := by decide +kernel
theorem D_Mo_hold_1 : decode prog_9_method_61_code 1 = .ok (.iconst 0, 1) := by decide +kernel
theorem D_Mo_hold_2 : decode prog_9_method_61_code 2 = .ok (.iload_n 1, 1) := by decide +kernel
theorem D_Mo_hold_3 : decode prog_9_method_61_code 3 = .ok (.ifCond .eq 7, 3) := by decide +kernel
theorem D_Mo_hold_6 : decode prog_9_method_61_code 6 = .ok (.iconst 3, 1) := by decide +kernel
theorem D_Mo_hold_7 : decode prog_9_method_61_code 7 = .ok (.goto 5, 3) := by decide +kernel
theorem D_Mo_hold_10 : decode prog_9_method_61_code 10 = .ok (.bipush 7, 2) := by decide +kernel
theorem D_Mo_hold_12 : decode prog_9_method_61_code 12 = .ok (.invokestatic 147, 3) := by decide +kernel
theorem D_Mo_hold_15 : decode prog_9_method_61_code 15 = .ok (.ifCond .eq 16, 3) := by decide +kernel
theorem D_Mo_hold_18 : decode prog_9_method_61_code 18 = .ok (.iload_n 3, 1) := by decide +kernel
theorem D_Mo_hold_19 : decode prog_9_method_61_code 19 = .ok (.iconst (-1), 1) := by decide +kernel
theorem D_Mo_hold_20 : decode prog_9_method_61_code 20 = .ok (.if_icmp .eq 14, 3) := by decide +kernel
theorem D_Mo_hold_23 : decode prog_9_method_61_code 23 = .ok (.aload_n 0, 1) := by decide +kernel
theorem D_Mo_hold_24 : decode prog_9_method_61_code 24 = .ok (.iload_n 3, 1) := by decide +kernel
theorem D_Mo_hold_25 : decode prog_9_method_61_code 25 = .ok (.invokevirtual 296, 3) := by decide +kernel
theorem D_Mo_hold_28 : decode prog_9_method_61_code 28 = .ok (.ifCond .ne 6, 3) := by decide +kernel
theorem D_Mo_hold_31 : decode prog_9_method_61_code 31 = .ok (.bipush (-100), 2) := by decide +kernel
theorem D_Mo_hold_33 : decode prog_9_method_61_code 33 = .ok (.ireturn, 1) := by decide +kernel
theorem D_Mo_hold_34 : decode prog_9_method_61_code 34 = .ok (.iload_n 1, 1) := by decide +kernel
theorem D_Mo_hold_35 : decode prog_9_method_61_code 35 = .ok (.ifCond .eq 12, 3) := by decide +kernel
theorem D_Mo_hold_38 : decode prog_9_method_61_code 38 = .ok (.aload_n 0, 1) := by decide +kernel
theorem D_Mo_hold_39 : decode prog_9_method_61_code 39 = .ok (.getfield 106, 3) := by decide +kernel
theorem D_Mo_hold_42 : decode prog_9_method_61_code 42 = .ok (.iload_n 2, 1) := by decide +kernel
theorem D_Mo_hold_43 : decode prog_9_method_61_code 43 = .ok (.iaload, 1) := by decide +kernel
theorem D_Mo_hold_44 : decode prog_9_method_61_code 44 = .ok (.goto 9, 3) := by decide +kernel
theorem D_Mo_hold_47 : decode prog_9_method_61_code 47 = .ok (.aload_n 0, 1) := by decide +kernel
theorem D_Mo_hold_48 : decode prog_9_method_61_code 48 = .ok (.getfield 103, 3) := by decide +kernel
theorem D_Mo_hold_51 : decode prog_9_method_61_code 51 = .ok (.iload_n 2, 1) := by decide +kernel
theorem D_Mo_hold_52 : decode prog_9_method_61_code 52 = .ok (.iaload, 1) := by decide +kernel
theorem D_Mo_hold_53 : decode prog_9_method_61_code 53 = .ok (.istore 4, 2) := by decide +kernel
theorem D_Mo_hold_55 : decode prog_9_method_61_code 55 = .ok (.iload_n 1, 1) := by decide +kernel
theorem D_Mo_hold_56 : decode prog_9_method_61_code 56 = .ok (.ifCond .eq 13, 3) := by decide +kernel
theorem D_Mo_hold_59 : decode prog_9_method_61_code 59 = .ok (.aload_n 0, 1) := by decide +kernel
theorem D_Mo_hold_60 : decode prog_9_method_61_code 60 = .ok (.getfield 106, 3) := by decide +kernel
theorem D_Mo_hold_63 : decode prog_9_method_61_code 63 = .ok (.iload_n 2, 1) := by decide +kernel
theorem D_Mo_hold_64 : decode prog_9_method_61_code 64 = .ok (.iload_n 3, 1) := by decide +kernel
theorem D_Mo_hold_65 : decode prog_9_method_61_code 65 = .ok (.iastore, 1) := by decide +kernel
theorem D_Mo_hold_66 : decode prog_9_method_61_code 66 = .ok (.goto 10, 3) := by decide +kernel
theorem D_Mo_hold_69 : decode prog_9_method_61_code 69 = .ok (.aload_n 0, 1) := by decide +kernel
theorem D_Mo_hold_70 : decode prog_9_method_61_code 70 = .ok (.getfield 103, 3) := by decide +kernel
theorem D_Mo_hold_73 : decode prog_9_method_61_code 73 = .ok (.iload_n 2, 1) := by decide +kernel
theorem D_Mo_hold_74 : decode prog_9_method_61_code 74 = .ok (.iload_n 3, 1) := by decide +kernel
theorem D_Mo_hold_75 : decode prog_9_method_61_code 75 = .ok (.iastore, 1) := by decide +kernel
theorem D_Mo_hold_76 : decode prog_9_method_61_code 76 = .ok (.iload 4, 2) := by decide +kernel
theorem D_Mo_hold_78 : decode prog_9_method_61_code 78 = .ok (.ireturn, 1) := by decide +kernel
def j_Mo_hold_31 (σ : gM) : gO :=
  some (σ, (-100))
set_option maxHeartbeats 4000000 in
theorem wj_Mo_hold_31 {X : gX} (C : gC gctM prog_9_method_61_code kR7 5 2 43 (some .int) X) (σ : gM) : GG gctM X 31 [] [] σ (j_Mo_hold_31 σ) := by
  unfold j_Mo_hold_31
  refine g_bipush C D_Mo_hold_31 (by decide) ⟨by decide, by decide⟩ ?_
  exact g_iret C D_Mo_hold_33
def j_Mo_hold_76 (σ : gM) (v4 : Int) : gO :=
  some (σ, v4)
set_option maxHeartbeats 4000000 in
theorem wj_Mo_hold_76 {X : gX} (C : gC gctM prog_9_method_61_code kR7 5 2 43 (some .int) X) (σ : gM) (v4 : Int) : GG gctM X 76 [(4, .inl v4)] [] σ (j_Mo_hold_76 σ v4) := by
  unfold j_Mo_hold_76
  refine g_iload C D_Mo_hold_76 0 rfl ?_
  exact g_iret C D_Mo_hold_78
def j_Mo_hold_53 (σ : gM) (v1 v2 v3 t0 : Int) : gO :=
  if v1 = 0 then
  (gw σ 27 8 v2 v3 fun s1 =>
  j_Mo_hold_76 s1 t0)
  else
  (gw σ 28 4 v2 v3 fun s2 =>
  j_Mo_hold_76 s2 t0)
set_option maxHeartbeats 4000000 in
theorem wj_Mo_hold_53 {X : gX} (C : gC gctM prog_9_method_61_code kR7 5 2 43 (some .int) X) (σ : gM) (v1 v2 v3 t0 : Int) : GG gctM X 53 [(0, .inr (.inr 0)), (1, .inl v1), (2, .inl v2), (3, .inl v3)] [.inl t0] σ (j_Mo_hold_53 σ v1 v2 v3 t0) := by
  unfold j_Mo_hold_53
  refine g_istore (L' := [(4, .inl t0), (0, .inr (.inr 0)), (1, .inl v1), (2, .inl v2), (3, .inl v3)]) C D_Mo_hold_53 (by decide) rfl ?_
  refine g_iload_n C D_Mo_hold_55 rfl 2 rfl ?_
  refine g_if_eq (tgt := 69) C D_Mo_hold_56 (by decide) ?_ ?_
  · refine g_aload_n C D_Mo_hold_69 rfl 1 rfl ?_
    refine g_getr (ci := 7) C 38 rfl kI7 rfl (by decide) rfl rfl wf_7_103 D_Mo_hold_70 ?_
    refine g_iload_n C D_Mo_hold_73 rfl 3 rfl ?_
    refine g_iload_n C D_Mo_hold_74 rfl 4 rfl ?_
    refine g_iast C rfl rfl D_Mo_hold_75 (fun s1 => ?_)
    refine g_sub [0] rfl ?_
    exact wj_Mo_hold_76 C _ _
  · refine g_aload_n C D_Mo_hold_59 rfl 1 rfl ?_
    refine g_getr (ci := 7) C 39 rfl kI7 rfl (by decide) rfl rfl wf_7_106 D_Mo_hold_60 ?_
    refine g_iload_n C D_Mo_hold_63 rfl 3 rfl ?_
    refine g_iload_n C D_Mo_hold_64 rfl 4 rfl ?_
    refine g_iast C rfl rfl D_Mo_hold_65 (fun s2 => ?_)
    refine g_goto (tgt := 76) C D_Mo_hold_66 (by decide) ?_
    refine g_sub [0] rfl ?_
    exact wj_Mo_hold_76 C _ _
def j_Mo_hold_34 (σ : gM) (v1 v2 v3 : Int) : gO :=
  if v1 = 0 then
  (gi v2 8 <|
  j_Mo_hold_53 σ v1 v2 v3 (σ 27 v2))
  else
  (gi v2 4 <|
  j_Mo_hold_53 σ v1 v2 v3 (σ 28 v2))
set_option maxHeartbeats 4000000 in
theorem wj_Mo_hold_34 {X : gX} (C : gC gctM prog_9_method_61_code kR7 5 2 43 (some .int) X) (σ : gM) (v1 v2 v3 : Int) : GG gctM X 34 [(0, .inr (.inr 0)), (1, .inl v1), (2, .inl v2), (3, .inl v3)] [] σ (j_Mo_hold_34 σ v1 v2 v3) := by
  unfold j_Mo_hold_34
  refine g_iload_n C D_Mo_hold_34 rfl 1 rfl ?_
  refine g_if_eq (tgt := 47) C D_Mo_hold_35 (by decide) ?_ ?_
  · refine g_aload_n C D_Mo_hold_47 rfl 0 rfl ?_
    refine g_getr (ci := 7) C 38 rfl kI7 rfl (by decide) rfl rfl wf_7_103 D_Mo_hold_48 ?_
    refine g_iload_n C D_Mo_hold_51 rfl 2 rfl ?_
    refine g_iald C rfl rfl rfl D_Mo_hold_52 ?_
    exact wj_Mo_hold_53 C _ _ _ _ _
  · refine g_aload_n C D_Mo_hold_38 rfl 0 rfl ?_
    refine g_getr (ci := 7) C 39 rfl kI7 rfl (by decide) rfl rfl wf_7_106 D_Mo_hold_39 ?_
    refine g_iload_n C D_Mo_hold_42 rfl 2 rfl ?_
    refine g_iald C rfl rfl rfl D_Mo_hold_43 ?_
    refine g_goto (tgt := 53) C D_Mo_hold_44 (by decide) ?_
    exact wj_Mo_hold_53 C _ _ _ _ _
def j_Mo_hold_12 (σ : gM) (v1 v2 v3 t0 t1 t2 : Int) : gO :=
  gk (F_Mo_in σ t2 t1 t0) fun s1 a2 =>
  if a2 = 0 then
  (j_Mo_hold_31 s1)
  else
  (if v3 = (-1) then
  (j_Mo_hold_34 s1 v1 v2 v3)
  else
  (gk (F_Mo_isObject s1 v3) fun s3 a4 =>
  if a4 = 0 then
  (j_Mo_hold_31 s3)
  else
  (j_Mo_hold_34 s3 v1 v2 v3)))
set_option maxHeartbeats 4000000 in
theorem wj_Mo_hold_12 {X : gX} (C : gC gctM prog_9_method_61_code kR7 5 2 43 (some .int) X) (σ : gM) (v1 v2 v3 t0 t1 t2 : Int) : GG gctM X 12 [(0, .inr (.inr 0)), (1, .inl v1), (2, .inl v2), (3, .inl v3)] [.inl t0, .inl t1, .inl t2] σ (j_Mo_hold_12 σ v1 v2 v3 t0 t1 t2) := by
  unfold j_Mo_hold_12
  refine g_callSi C [.inl t2, .inl t1, .inl t0] [] (Or.inr rfl) rfl (fun _ h1 h2 h3 => c_Mo_in h1 h2 h3) wc_7_147 (by decide) (Nat.le_of_ble_eq_true rfl) D_Mo_hold_12 (fun s1 a2 => ?_)
  refine g_if_eq (tgt := 31) C D_Mo_hold_15 (by decide) ?_ ?_
  · refine g_sub [] rfl ?_
    exact wj_Mo_hold_31 C _
  · refine g_iload_n C D_Mo_hold_18 rfl 3 rfl ?_
    refine g_iconst C D_Mo_hold_19 ⟨by decide, by decide⟩ ?_
    refine g_icmp_eq (tgt := 34) C D_Mo_hold_20 (by decide) ?_ ?_
    · exact wj_Mo_hold_34 C _ _ _ _
    · refine g_aload_n C D_Mo_hold_23 rfl 0 rfl ?_
      refine g_iload_n C D_Mo_hold_24 rfl 3 rfl ?_
      refine g_callVi (ci := 7) C [.inl v3] [] (Or.inr rfl) rfl (fun _ h1 h2 h3 => c_Mo_isObject h1 h2 h3) rfl rfl wc_7_296 (by decide) (Nat.le_of_ble_eq_true rfl) D_Mo_hold_25 (fun s3 a4 => ?_)
      refine g_if_ne (tgt := 34) C D_Mo_hold_28 (by decide) ?_ ?_
      · exact wj_Mo_hold_34 C _ _ _ _
      · refine g_sub [] rfl ?_
        exact wj_Mo_hold_31 C _
def F_Mo_hold (σ : gM) (v1 v2 v3 : Int) : gO :=
  if v1 = 0 then
  (j_Mo_hold_12 σ v1 v2 v3 7 0 v2)
  else
  (j_Mo_hold_12 σ v1 v2 v3 3 0 v2)
set_option maxHeartbeats 4000000 in
theorem w_Mo_hold {X : gX} (C : gC gctM prog_9_method_61_code kR7 5 2 43 (some .int) X) (σ : gM) (v1 v2 v3 : Int) : GG gctM X 0 [(0, .inr (.inr 0)), (1, .inl v1), (2, .inl v2), (3, .inl v3)] [] σ (F_Mo_hold σ v1 v2 v3) := by
  unfold F_Mo_hold
  refine g_iload_n C D_Mo_hold_0 rfl 2 rfl ?_
  refine g_iconst C D_Mo_hold_1 ⟨by decide, by decide⟩ ?_
  refine g_iload_n C D_Mo_hold_2 rfl 1 rfl ?_
  refine g_if_eq (tgt := 10) C D_Mo_hold_3 (by decide) ?_ ?_
  · refine g_bipush C D_Mo_hold_10 (by decide) ⟨by decide, by decide⟩ ?_
    exact wj_Mo_hold_12 C _ _ _ _ _ _ _
  · refine g_iconst C D_Mo_hold_6 ⟨by decide, by decide⟩ ?_
    refine g_goto (tgt := 12) C D_Mo_hold_7 (by decide) ?_
    exact wj_Mo_hold_12 C _ _ _ _ _ _ _
theorem c_Mo_hold {σ : gM} {v1 v2 v3 : Int} {r : gR} (ho : F_Mo_hold σ v1 v2 v3 = some r) (hok : gOk [.inr (.inr 0), .inl v1, .inl v2, .inl v3]) (hin : gIn gctM σ) : gCt gctM Y_Mo_hold prog_9_method_61_code 5 (some .int) 2 43 [.inr (.inr 0), .inl v1, .inl v2, .inl v3] σ r := g_entry (by decide) rfl (Nat.le_of_ble_eq_true rfl) ho hok hin (fun X C => w_Mo_hold C σ v1 v2 v3)
theorem D_Mo_gather_0 : decode prog_9_method_67_code 0 = .ok (.iload_n 1, 1) := by decide +kernel
theorem D_Mo_gather_1 : decode prog_9_method_67_code 1 = .ok (.iconst 0, 1) := by decide +kernel
theorem D_Mo_gather_2 : decode prog_9_method_67_code 2 = .ok (.iconst 2, 1) := by decide +kernel
theorem D_Mo_gather_3 : decode prog_9_method_67_code 3 = .ok (.invokestatic 147, 3) := by decide +kernel
theorem D_Mo_gather_6 : decode prog_9_method_67_code 6 = .ok (.ifCond .eq 11, 3) := by decide +kernel
theorem D_Mo_gather_9 : decode prog_9_method_67_code 9 = .ok (.aload_n 0, 1) := by decide +kernel
theorem D_Mo_gather_10 : decode prog_9_method_67_code 10 = .ok (.iload_n 1, 1) := by decide +kernel
theorem D_Mo_gather_11 : decode prog_9_method_67_code 11 = .ok (.invokevirtual 293, 3) := by decide +kernel
theorem D_Mo_gather_14 : decode prog_9_method_67_code 14 = .ok (.goto 4, 3) := by decide +kernel
theorem D_Mo_gather_17 : decode prog_9_method_67_code 17 = .ok (.iconst (-1), 1) := by decide +kernel
theorem D_Mo_gather_18 : decode prog_9_method_67_code 18 = .ok (.ireturn, 1) := by decide +kernel
def j_Mo_gather_18 (σ : gM) (t0 : Int) : gO :=
  some (σ, t0)
set_option maxHeartbeats 4000000 in
theorem wj_Mo_gather_18 {X : gX} (C : gC gctM prog_9_method_67_code kR7 2 11 264 (some .int) X) (σ : gM) (t0 : Int) : GG gctM X 18 [] [.inl t0] σ (j_Mo_gather_18 σ t0) := by
  unfold j_Mo_gather_18
  exact g_iret C D_Mo_gather_18
def F_Mo_gather (σ : gM) (v1 : Int) : gO :=
  gk (F_Mo_in σ v1 0 2) fun s1 a2 =>
  if a2 = 0 then
  (j_Mo_gather_18 s1 (-1))
  else
  (gk (F_Mo_gatherNow s1 v1) fun s3 a4 =>
  j_Mo_gather_18 s3 a4)
set_option maxHeartbeats 4000000 in
theorem w_Mo_gather {X : gX} (C : gC gctM prog_9_method_67_code kR7 2 11 264 (some .int) X) (σ : gM) (v1 : Int) : GG gctM X 0 [(0, .inr (.inr 0)), (1, .inl v1)] [] σ (F_Mo_gather σ v1) := by
  unfold F_Mo_gather
  refine g_iload_n C D_Mo_gather_0 rfl 1 rfl ?_
  refine g_iconst C D_Mo_gather_1 ⟨by decide, by decide⟩ ?_
  refine g_iconst C D_Mo_gather_2 ⟨by decide, by decide⟩ ?_
  refine g_callSi C [.inl v1, .inl 0, .inl 2] [] (Or.inr rfl) rfl (fun _ h1 h2 h3 => c_Mo_in h1 h2 h3) wc_7_147 (by decide) (Nat.le_of_ble_eq_true rfl) D_Mo_gather_3 (fun s1 a2 => ?_)
  refine g_if_eq (tgt := 17) C D_Mo_gather_6 (by decide) ?_ ?_
  · refine g_iconst C D_Mo_gather_17 ⟨by decide, by decide⟩ ?_
    refine g_sub [] rfl ?_
    exact wj_Mo_gather_18 C _ _
  · refine g_aload_n C D_Mo_gather_9 rfl 0 rfl ?_
    refine g_iload_n C D_Mo_gather_10 rfl 1 rfl ?_
    refine g_callVi (ci := 7) C [.inl v1] [] (Or.inl rfl) rfl (fun _ h1 h2 h3 => c_Mo_gatherNow h1 h2 h3) rfl rfl wc_7_293 (by decide) (Nat.le_of_ble_eq_true rfl) D_Mo_gather_11 (fun s3 a4 => ?_)
    refine g_goto (tgt := 18) C D_Mo_gather_14 (by decide) ?_
    refine g_sub [] rfl ?_
    exact wj_Mo_gather_18 C _ _
theorem c_Mo_gather {σ : gM} {v1 : Int} {r : gR} (ho : F_Mo_gather σ v1 = some r) (hok : gOk [.inr (.inr 0), .inl v1]) (hin : gIn gctM σ) : gCt gctM Y_Mo_gather prog_9_method_67_code 2 (some .int) 11 264 [.inr (.inr 0), .inl v1] σ r := g_entry (by decide) rfl (Nat.le_of_ble_eq_true rfl) ho hok hin (fun X C => w_Mo_gather C σ v1)
theorem D_Mo_about_0 : decode prog_9_method_68_code 0 = .ok (.aload_n 0, 1) := by decide +kernel
theorem D_Mo_about_1 : decode prog_9_method_68_code 1 = .ok (.iload_n 1, 1) := by decide +kernel
theorem D_Mo_about_2 : decode prog_9_method_68_code 2 = .ok (.invokevirtual 296, 3) := by decide +kernel
theorem D_Mo_about_5 : decode prog_9_method_68_code 5 = .ok (.ifCond .eq 12, 3) := by decide +kernel
theorem D_Mo_about_8 : decode prog_9_method_68_code 8 = .ok (.iload_n 2, 1) := by decide +kernel
theorem D_Mo_about_9 : decode prog_9_method_68_code 9 = .ok (.iconst 0, 1) := by decide +kernel
theorem D_Mo_about_10 : decode prog_9_method_68_code 10 = .ok (.iconst 4, 1) := by decide +kernel
theorem D_Mo_about_11 : decode prog_9_method_68_code 11 = .ok (.invokestatic 147, 3) := by decide +kernel
theorem D_Mo_about_14 : decode prog_9_method_68_code 14 = .ok (.ifCond .ne 5, 3) := by decide +kernel
theorem D_Mo_about_17 : decode prog_9_method_68_code 17 = .ok (.iconst (-1), 1) := by decide +kernel
theorem D_Mo_about_18 : decode prog_9_method_68_code 18 = .ok (.ireturn, 1) := by decide +kernel
theorem D_Mo_about_19 : decode prog_9_method_68_code 19 = .ok (.iload_n 2, 1) := by decide +kernel
theorem D_Mo_about_20 : decode prog_9_method_68_code 20 = .ok (.tableswitch 68 0 3 #[32, 39, 46, 53], 32) := by decide +kernel
theorem D_Mo_about_52 : decode prog_9_method_68_code 52 = .ok (.aload_n 0, 1) := by decide +kernel
theorem D_Mo_about_53 : decode prog_9_method_68_code 53 = .ok (.getfield 87, 3) := by decide +kernel
theorem D_Mo_about_56 : decode prog_9_method_68_code 56 = .ok (.iload_n 1, 1) := by decide +kernel
theorem D_Mo_about_57 : decode prog_9_method_68_code 57 = .ok (.iaload, 1) := by decide +kernel
theorem D_Mo_about_58 : decode prog_9_method_68_code 58 = .ok (.ireturn, 1) := by decide +kernel
theorem D_Mo_about_59 : decode prog_9_method_68_code 59 = .ok (.aload_n 0, 1) := by decide +kernel
theorem D_Mo_about_60 : decode prog_9_method_68_code 60 = .ok (.getfield 90, 3) := by decide +kernel
theorem D_Mo_about_63 : decode prog_9_method_68_code 63 = .ok (.iload_n 1, 1) := by decide +kernel
theorem D_Mo_about_64 : decode prog_9_method_68_code 64 = .ok (.iaload, 1) := by decide +kernel
theorem D_Mo_about_65 : decode prog_9_method_68_code 65 = .ok (.ireturn, 1) := by decide +kernel
theorem D_Mo_about_66 : decode prog_9_method_68_code 66 = .ok (.aload_n 0, 1) := by decide +kernel
theorem D_Mo_about_67 : decode prog_9_method_68_code 67 = .ok (.getfield 93, 3) := by decide +kernel
theorem D_Mo_about_70 : decode prog_9_method_68_code 70 = .ok (.iload_n 1, 1) := by decide +kernel
theorem D_Mo_about_71 : decode prog_9_method_68_code 71 = .ok (.iaload, 1) := by decide +kernel
theorem D_Mo_about_72 : decode prog_9_method_68_code 72 = .ok (.ireturn, 1) := by decide +kernel
theorem D_Mo_about_73 : decode prog_9_method_68_code 73 = .ok (.aload_n 0, 1) := by decide +kernel
theorem D_Mo_about_74 : decode prog_9_method_68_code 74 = .ok (.getfield 96, 3) := by decide +kernel
theorem D_Mo_about_77 : decode prog_9_method_68_code 77 = .ok (.iload_n 1, 1) := by decide +kernel
theorem D_Mo_about_78 : decode prog_9_method_68_code 78 = .ok (.baload, 1) := by decide +kernel
theorem D_Mo_about_79 : decode prog_9_method_68_code 79 = .ok (.ifCond .eq 7, 3) := by decide +kernel
theorem D_Mo_about_82 : decode prog_9_method_68_code 82 = .ok (.iconst 1, 1) := by decide +kernel
theorem D_Mo_about_83 : decode prog_9_method_68_code 83 = .ok (.goto 4, 3) := by decide +kernel
theorem D_Mo_about_86 : decode prog_9_method_68_code 86 = .ok (.iconst 0, 1) := by decide +kernel
theorem D_Mo_about_87 : decode prog_9_method_68_code 87 = .ok (.ireturn, 1) := by decide +kernel
theorem D_Mo_about_88 : decode prog_9_method_68_code 88 = .ok (.aload_n 0, 1) := by decide +kernel
theorem D_Mo_about_89 : decode prog_9_method_68_code 89 = .ok (.getfield 99, 3) := by decide +kernel
theorem D_Mo_about_92 : decode prog_9_method_68_code 92 = .ok (.iload_n 1, 1) := by decide +kernel
theorem D_Mo_about_93 : decode prog_9_method_68_code 93 = .ok (.laload, 1) := by decide +kernel
theorem D_Mo_about_94 : decode prog_9_method_68_code 94 = .ok (.l2i, 1) := by decide +kernel
theorem D_Mo_about_95 : decode prog_9_method_68_code 95 = .ok (.ireturn, 1) := by decide +kernel
def j_Mo_about_17 (σ : gM) : gO :=
  some (σ, (-1))
set_option maxHeartbeats 4000000 in
theorem wj_Mo_about_17 {X : gX} (C : gC gctM prog_9_method_68_code kR7 3 2 43 (some .int) X) (σ : gM) : GG gctM X 17 [] [] σ (j_Mo_about_17 σ) := by
  unfold j_Mo_about_17
  refine g_iconst C D_Mo_about_17 ⟨by decide, by decide⟩ ?_
  exact g_iret C D_Mo_about_18
def j_Mo_about_87 (σ : gM) (t0 : Int) : gO :=
  some (σ, t0)
set_option maxHeartbeats 4000000 in
theorem wj_Mo_about_87 {X : gX} (C : gC gctM prog_9_method_68_code kR7 3 2 43 (some .int) X) (σ : gM) (t0 : Int) : GG gctM X 87 [] [.inl t0] σ (j_Mo_about_87 σ t0) := by
  unfold j_Mo_about_87
  exact g_iret C D_Mo_about_87
def F_Mo_about (σ : gM) (v1 v2 : Int) : gO :=
  gk (F_Mo_isObject σ v1) fun s1 a2 =>
  if a2 = 0 then
  (j_Mo_about_17 s1)
  else
  (gk (F_Mo_in s1 v2 0 4) fun s3 a4 =>
  if a4 = 0 then
  (j_Mo_about_17 s3)
  else
  (if v2 = 0 then
  (gi v1 40 <|
  some (s3, (s3 22 v1)))
  else if v2 = 1 then
  (gi v1 40 <|
  some (s3, (s3 23 v1)))
  else if v2 = 2 then
  (gi v1 40 <|
  some (s3, (s3 24 v1)))
  else if v2 = 3 then
  (gi v1 40 <|
  if (s3 25 v1) = 0 then
  (j_Mo_about_87 s3 0)
  else
  (j_Mo_about_87 s3 1))
  else (gi v1 40 <|
  ga (s3 26 v1) fun a5 =>
  some (s3, a5))))
set_option maxHeartbeats 4000000 in
theorem w_Mo_about {X : gX} (C : gC gctM prog_9_method_68_code kR7 3 2 43 (some .int) X) (σ : gM) (v1 v2 : Int) : GG gctM X 0 [(0, .inr (.inr 0)), (1, .inl v1), (2, .inl v2)] [] σ (F_Mo_about σ v1 v2) := by
  unfold F_Mo_about
  refine g_aload_n C D_Mo_about_0 rfl 0 rfl ?_
  refine g_iload_n C D_Mo_about_1 rfl 1 rfl ?_
  refine g_callVi (ci := 7) C [.inl v1] [] (Or.inr rfl) rfl (fun _ h1 h2 h3 => c_Mo_isObject h1 h2 h3) rfl rfl wc_7_296 (by decide) (Nat.le_of_ble_eq_true rfl) D_Mo_about_2 (fun s1 a2 => ?_)
  refine g_if_eq (tgt := 17) C D_Mo_about_5 (by decide) ?_ ?_
  · refine g_sub [] rfl ?_
    exact wj_Mo_about_17 C _
  · refine g_iload_n C D_Mo_about_8 rfl 2 rfl ?_
    refine g_iconst C D_Mo_about_9 ⟨by decide, by decide⟩ ?_
    refine g_iconst C D_Mo_about_10 ⟨by decide, by decide⟩ ?_
    refine g_callSi C [.inl v2, .inl 0, .inl 4] [] (Or.inr rfl) rfl (fun _ h1 h2 h3 => c_Mo_in h1 h2 h3) wc_7_147 (by decide) (Nat.le_of_ble_eq_true rfl) D_Mo_about_11 (fun s3 a4 => ?_)
    refine g_if_ne (tgt := 19) C D_Mo_about_14 (by decide) ?_ ?_
    · refine g_iload_n C D_Mo_about_19 rfl 2 rfl ?_
      refine g_ite _ (fun h0 => ?_) (fun h0 => ?_)
      · refine g_tabIn (v := 0) (tgt := 52) C D_Mo_about_20 h0 ⟨by decide, by decide⟩ (by decide) (by decide) rfl (by decide) ?_
        refine g_aload_n C D_Mo_about_52 rfl 0 rfl ?_
        refine g_getr (ci := 7) C 33 rfl kI7 rfl (by decide) rfl rfl wf_7_87 D_Mo_about_53 ?_
        refine g_iload_n C D_Mo_about_56 rfl 1 rfl ?_
        refine g_iald C rfl rfl rfl D_Mo_about_57 ?_
        exact g_iret C D_Mo_about_58
      refine g_ite _ (fun h1 => ?_) (fun h1 => ?_)
      · refine g_tabIn (v := 1) (tgt := 59) C D_Mo_about_20 h1 ⟨by decide, by decide⟩ (by decide) (by decide) rfl (by decide) ?_
        refine g_aload_n C D_Mo_about_59 rfl 0 rfl ?_
        refine g_getr (ci := 7) C 34 rfl kI7 rfl (by decide) rfl rfl wf_7_90 D_Mo_about_60 ?_
        refine g_iload_n C D_Mo_about_63 rfl 1 rfl ?_
        refine g_iald C rfl rfl rfl D_Mo_about_64 ?_
        exact g_iret C D_Mo_about_65
      refine g_ite _ (fun h2 => ?_) (fun h2 => ?_)
      · refine g_tabIn (v := 2) (tgt := 66) C D_Mo_about_20 h2 ⟨by decide, by decide⟩ (by decide) (by decide) rfl (by decide) ?_
        refine g_aload_n C D_Mo_about_66 rfl 0 rfl ?_
        refine g_getr (ci := 7) C 35 rfl kI7 rfl (by decide) rfl rfl wf_7_93 D_Mo_about_67 ?_
        refine g_iload_n C D_Mo_about_70 rfl 1 rfl ?_
        refine g_iald C rfl rfl rfl D_Mo_about_71 ?_
        exact g_iret C D_Mo_about_72
      refine g_ite _ (fun h3 => ?_) (fun h3 => ?_)
      · refine g_tabIn (v := 3) (tgt := 73) C D_Mo_about_20 h3 ⟨by decide, by decide⟩ (by decide) (by decide) rfl (by decide) ?_
        refine g_aload_n C D_Mo_about_73 rfl 0 rfl ?_
        refine g_getr (ci := 7) C 36 rfl kI7 rfl (by decide) rfl rfl wf_7_96 D_Mo_about_74 ?_
        refine g_iload_n C D_Mo_about_77 rfl 1 rfl ?_
        refine g_zald C rfl rfl rfl D_Mo_about_78 ?_
        refine g_if_eq (tgt := 86) C D_Mo_about_79 (by decide) ?_ ?_
        · refine g_iconst C D_Mo_about_86 ⟨by decide, by decide⟩ ?_
          refine g_sub [] rfl ?_
          exact wj_Mo_about_87 C _ _
        · refine g_iconst C D_Mo_about_82 ⟨by decide, by decide⟩ ?_
          refine g_goto (tgt := 87) C D_Mo_about_83 (by decide) ?_
          refine g_sub [] rfl ?_
          exact wj_Mo_about_87 C _ _
      refine g_tabOut (tgt := 88) C D_Mo_about_20 (by omega) (by decide) ?_
      refine g_aload_n C D_Mo_about_88 rfl 0 rfl ?_
      refine g_getr (ci := 7) C 37 rfl kI7 rfl (by decide) rfl rfl wf_7_99 D_Mo_about_89 ?_
      refine g_iload_n C D_Mo_about_92 rfl 1 rfl ?_
      refine g_lald C rfl rfl D_Mo_about_93 ?_
      refine g_l2i C D_Mo_about_94 (fun a5 => ?_)
      exact g_iret C D_Mo_about_95
    · refine g_sub [] rfl ?_
      exact wj_Mo_about_17 C _
theorem c_Mo_about {σ : gM} {v1 v2 : Int} {r : gR} (ho : F_Mo_about σ v1 v2 = some r) (hok : gOk [.inr (.inr 0), .inl v1, .inl v2]) (hin : gIn gctM σ) : gCt gctM Y_Mo_about prog_9_method_68_code 3 (some .int) 2 43 [.inr (.inr 0), .inl v1, .inl v2] σ r := g_entry (by decide) rfl (Nat.le_of_ble_eq_true rfl) ho hok hin (fun X C => w_Mo_about C σ v1 v2)
theorem D_Mo_room_0 : decode prog_9_method_69_code 0 = .ok (.iload_n 1, 1) := by decide +kernel
theorem D_Mo_room_1 : decode prog_9_method_69_code 1 = .ok (.ifCond .lt 12, 3) := by decide +kernel
theorem D_Mo_room_4 : decode prog_9_method_69_code 4 = .ok (.iload_n 2, 1) := by decide +kernel
theorem D_Mo_room_5 : decode prog_9_method_69_code 5 = .ok (.iconst 0, 1) := by decide +kernel
theorem D_Mo_room_6 : decode prog_9_method_69_code 6 = .ok (.iconst 1, 1) := by decide +kernel
theorem D_Mo_room_7 : decode prog_9_method_69_code 7 = .ok (.invokestatic 147, 3) := by decide +kernel
theorem D_Mo_room_10 : decode prog_9_method_69_code 10 = .ok (.ifCond .ne 5, 3) := by decide +kernel
theorem D_Mo_room_13 : decode prog_9_method_69_code 13 = .ok (.iconst (-1), 1) := by decide +kernel
theorem D_Mo_room_14 : decode prog_9_method_69_code 14 = .ok (.ireturn, 1) := by decide +kernel
theorem D_Mo_room_15 : decode prog_9_method_69_code 15 = .ok (.iconst 0, 1) := by decide +kernel
theorem D_Mo_room_16 : decode prog_9_method_69_code 16 = .ok (.istore_n 3, 1) := by decide +kernel
theorem D_Mo_room_17 : decode prog_9_method_69_code 17 = .ok (.iconst 0, 1) := by decide +kernel
theorem D_Mo_room_18 : decode prog_9_method_69_code 18 = .ok (.istore 4, 2) := by decide +kernel
theorem D_Mo_room_20 : decode prog_9_method_69_code 20 = .ok (.iload_n 3, 1) := by decide +kernel
theorem D_Mo_room_21 : decode prog_9_method_69_code 21 = .ok (.sipush 1024, 3) := by decide +kernel
theorem D_Mo_room_24 : decode prog_9_method_69_code 24 = .ok (.if_icmp .ge 49, 3) := by decide +kernel
theorem D_Mo_room_27 : decode prog_9_method_69_code 27 = .ok (.aload_n 0, 1) := by decide +kernel
theorem D_Mo_room_28 : decode prog_9_method_69_code 28 = .ok (.iload_n 3, 1) := by decide +kernel
theorem D_Mo_room_29 : decode prog_9_method_69_code 29 = .ok (.invokevirtual 284, 3) := by decide +kernel
theorem D_Mo_room_32 : decode prog_9_method_69_code 32 = .ok (.ifCond .eq 41, 3) := by decide +kernel
theorem D_Mo_room_35 : decode prog_9_method_69_code 35 = .ok (.iload 4, 2) := by decide +kernel
theorem D_Mo_room_37 : decode prog_9_method_69_code 37 = .ok (.iload_n 1, 1) := by decide +kernel
theorem D_Mo_room_38 : decode prog_9_method_69_code 38 = .ok (.if_icmp .ne 19, 3) := by decide +kernel
theorem D_Mo_room_41 : decode prog_9_method_69_code 41 = .ok (.iload_n 2, 1) := by decide +kernel
theorem D_Mo_room_42 : decode prog_9_method_69_code 42 = .ok (.ifCond .ne 10, 3) := by decide +kernel
theorem D_Mo_room_45 : decode prog_9_method_69_code 45 = .ok (.aload_n 0, 1) := by decide +kernel
theorem D_Mo_room_46 : decode prog_9_method_69_code 46 = .ok (.getfield 278, 3) := by decide +kernel
theorem D_Mo_room_49 : decode prog_9_method_69_code 49 = .ok (.goto 7, 3) := by decide +kernel
theorem D_Mo_room_52 : decode prog_9_method_69_code 52 = .ok (.aload_n 0, 1) := by decide +kernel
theorem D_Mo_room_53 : decode prog_9_method_69_code 53 = .ok (.getfield 281, 3) := by decide +kernel
theorem D_Mo_room_56 : decode prog_9_method_69_code 56 = .ok (.ireturn, 1) := by decide +kernel
theorem D_Mo_room_57 : decode prog_9_method_69_code 57 = .ok (.iinc 4 1, 3) := by decide +kernel
theorem D_Mo_room_60 : decode prog_9_method_69_code 60 = .ok (.aload_n 0, 1) := by decide +kernel
theorem D_Mo_room_61 : decode prog_9_method_69_code 61 = .ok (.getfield 278, 3) := by decide +kernel
theorem D_Mo_room_64 : decode prog_9_method_69_code 64 = .ok (.aload_n 0, 1) := by decide +kernel
theorem D_Mo_room_65 : decode prog_9_method_69_code 65 = .ok (.getfield 281, 3) := by decide +kernel
theorem D_Mo_room_68 : decode prog_9_method_69_code 68 = .ok (.iadd, 1) := by decide +kernel
theorem D_Mo_room_69 : decode prog_9_method_69_code 69 = .ok (.istore_n 3, 1) := by decide +kernel
theorem D_Mo_room_70 : decode prog_9_method_69_code 70 = .ok (.goto (-50), 3) := by decide +kernel
theorem D_Mo_room_73 : decode prog_9_method_69_code 73 = .ok (.bipush (-4), 2) := by decide +kernel
theorem D_Mo_room_75 : decode prog_9_method_69_code 75 = .ok (.ireturn, 1) := by decide +kernel
def j_Mo_room_13 (σ : gM) : gO :=
  some (σ, (-1))
set_option maxHeartbeats 4000000 in
theorem wj_Mo_room_13 {X : gX} (C : gC gctM prog_9_method_69_code kR7 5 2 46 (some .int) X) (σ : gM) : GG gctM X 13 [] [] σ (j_Mo_room_13 σ) := by
  unfold j_Mo_room_13
  refine g_iconst C D_Mo_room_13 ⟨by decide, by decide⟩ ?_
  exact g_iret C D_Mo_room_14
def l_Mo_room_20 (k1 : gM → gO) (k2 : gM → gO) (p1 p2 : Int) (rec : gM → Int → Int → gO) (σ : gM) (v3 v4 : Int) : gO :=
  if v3 < 1024 then
  (gk (F_Mo_nextRoom σ v3) fun s1 a2 =>
  if a2 = 0 then
  (k2 s1)
  else
  (if v4 = p1 then
  (k1 s1)
  else
  (ga (v4 + 1) fun a3 =>
  ga ((s1 0 44) + (s1 0 45)) fun a4 =>
  rec s1 a4 a3)))
  else
  (k2 σ)
set_option maxHeartbeats 4000000 in
theorem wl_Mo_room_20 {X : gX} (C : gC gctM prog_9_method_69_code kR7 5 2 46 (some .int) X) {p1 p2 : Int} {k1 : gM → gO} (hk1 : ∀ (σ : gM), GG gctM X 41 [(0, .inr (.inr 0)), (2, .inl p2)] [] σ (k1 σ)) {k2 : gM → gO} (hk2 : ∀ (σ : gM), GG gctM X 73 [] [] σ (k2 σ)) : ∀ (n : Nat) (σ : gM) (a0 a1 : Int), GG gctM X 20 [(0, .inr (.inr 0)), (1, .inl p1), (2, .inl p2), (3, .inl a0), (4, .inl a1)] [] σ (gl2 (l_Mo_room_20 k1 k2 p1 p2) n σ a0 a1) := by
  refine gl2_run (P := fun σ a0 a1 o => GG gctM X 20 [(0, .inr (.inr 0)), (1, .inl p1), (2, .inl p2), (3, .inl a0), (4, .inl a1)] [] σ o) (fun _ _ _ => g_none) (fun rec hrec σ v3 v4 => ?_)
  unfold l_Mo_room_20
  refine g_iload_n C D_Mo_room_20 rfl 3 rfl ?_
  refine g_sipush C D_Mo_room_21 (by decide) ⟨by decide, by decide⟩ ?_
  refine g_icmp_ge (tgt := 73) C D_Mo_room_24 (by decide) ?_ ?_
  · refine g_sub [] rfl ?_
    exact hk2 _
  · refine g_aload_n C D_Mo_room_27 rfl 0 rfl ?_
    refine g_iload_n C D_Mo_room_28 rfl 3 rfl ?_
    refine g_callVi (ci := 7) C [.inl v3] [] (Or.inr rfl) rfl (fun _ h1 h2 h3 => c_Mo_nextRoom h1 h2 h3) rfl rfl wc_7_284 (by decide) (Nat.le_of_ble_eq_true rfl) D_Mo_room_29 (fun s1 a2 => ?_)
    refine g_if_eq (tgt := 73) C D_Mo_room_32 (by decide) ?_ ?_
    · refine g_sub [] rfl ?_
      exact hk2 _
    · refine g_iload C D_Mo_room_35 4 rfl ?_
      refine g_iload_n C D_Mo_room_37 rfl 1 rfl ?_
      refine g_icmp_ne (tgt := 57) C D_Mo_room_38 (by decide) ?_ ?_
      · refine g_iinc (t := 4) (L' := fun z => [(4, .inl z), (0, .inr (.inr 0)), (1, .inl p1), (2, .inl p2), (3, .inl v3)]) C D_Mo_room_57 rfl (by decide) (fun _ => rfl) (fun a3 => ?_)
        refine g_aload_n C D_Mo_room_60 rfl 1 rfl ?_
        refine g_get (ci := 7) C 44 (jz := 44) rfl rfl kI7 rfl (by decide) rfl rfl wf_7_278 rfl D_Mo_room_61 ?_
        refine g_aload_n C D_Mo_room_64 rfl 1 rfl ?_
        refine g_get (ci := 7) C 45 (jz := 45) rfl rfl kI7 rfl (by decide) rfl rfl wf_7_281 rfl D_Mo_room_65 ?_
        refine g_iadd C D_Mo_room_68 (fun a4 => ?_)
        refine g_istore_n (L' := [(3, .inl a4), (4, .inl a3), (0, .inr (.inr 0)), (1, .inl p1), (2, .inl p2)]) C D_Mo_room_69 rfl (by decide) rfl ?_
        refine g_goto (tgt := 20) C D_Mo_room_70 (by decide) ?_
        refine g_sub [2, 3, 4, 0, 1] rfl ?_
        exact hrec _ _ _
      · refine g_sub [0, 2] rfl ?_
        exact hk1 _
def j_Mo_room_56 (σ : gM) (t0 : Int) : gO :=
  some (σ, t0)
set_option maxHeartbeats 4000000 in
theorem wj_Mo_room_56 {X : gX} (C : gC gctM prog_9_method_69_code kR7 5 2 46 (some .int) X) (σ : gM) (t0 : Int) : GG gctM X 56 [] [.inl t0] σ (j_Mo_room_56 σ t0) := by
  unfold j_Mo_room_56
  exact g_iret C D_Mo_room_56
def j_Mo_room_73 (σ : gM) : gO :=
  some (σ, (-4))
set_option maxHeartbeats 4000000 in
theorem wj_Mo_room_73 {X : gX} (C : gC gctM prog_9_method_69_code kR7 5 2 46 (some .int) X) (σ : gM) : GG gctM X 73 [] [] σ (j_Mo_room_73 σ) := by
  unfold j_Mo_room_73
  refine g_bipush C D_Mo_room_73 (by decide) ⟨by decide, by decide⟩ ?_
  exact g_iret C D_Mo_room_75
def F_Mo_room (σ : gM) (v1 v2 : Int) : gO :=
  if v1 < 0 then
  (j_Mo_room_13 σ)
  else
  (gk (F_Mo_in σ v2 0 1) fun s1 a2 =>
  if a2 = 0 then
  (j_Mo_room_13 s1)
  else
  (gl2 (l_Mo_room_20 (fun s3 => if v2 = 0 then
  (j_Mo_room_56 s3 (s3 0 44))
  else
  (j_Mo_room_56 s3 (s3 0 45))) (fun s4 => j_Mo_room_73 s4) v1 v2) 200 s1 0 0))
set_option maxHeartbeats 4000000 in
theorem w_Mo_room {X : gX} (C : gC gctM prog_9_method_69_code kR7 5 2 46 (some .int) X) (σ : gM) (v1 v2 : Int) : GG gctM X 0 [(0, .inr (.inr 0)), (1, .inl v1), (2, .inl v2)] [] σ (F_Mo_room σ v1 v2) := by
  unfold F_Mo_room
  refine g_iload_n C D_Mo_room_0 rfl 1 rfl ?_
  refine g_if_lt (tgt := 13) C D_Mo_room_1 (by decide) ?_ ?_
  · refine g_sub [] rfl ?_
    exact wj_Mo_room_13 C _
  · refine g_iload_n C D_Mo_room_4 rfl 2 rfl ?_
    refine g_iconst C D_Mo_room_5 ⟨by decide, by decide⟩ ?_
    refine g_iconst C D_Mo_room_6 ⟨by decide, by decide⟩ ?_
    refine g_callSi C [.inl v2, .inl 0, .inl 1] [] (Or.inr rfl) rfl (fun _ h1 h2 h3 => c_Mo_in h1 h2 h3) wc_7_147 (by decide) (Nat.le_of_ble_eq_true rfl) D_Mo_room_7 (fun s1 a2 => ?_)
    refine g_if_ne (tgt := 15) C D_Mo_room_10 (by decide) ?_ ?_
    · refine g_iconst C D_Mo_room_15 ⟨by decide, by decide⟩ ?_
      refine g_istore_n (L' := [(3, .inl 0), (0, .inr (.inr 0)), (1, .inl v1), (2, .inl v2)]) C D_Mo_room_16 rfl (by decide) rfl ?_
      refine g_iconst C D_Mo_room_17 ⟨by decide, by decide⟩ ?_
      refine g_istore (L' := [(4, .inl 0), (3, .inl 0), (0, .inr (.inr 0)), (1, .inl v1), (2, .inl v2)]) C D_Mo_room_18 (by decide) rfl ?_
      refine g_sub [2, 3, 4, 1, 0] rfl ?_
      exact wl_Mo_room_20 C (fun s3 => by
          refine g_iload_n C D_Mo_room_41 rfl 1 rfl ?_
          refine g_if_ne (tgt := 52) C D_Mo_room_42 (by decide) ?_ ?_
          · refine g_aload_n C D_Mo_room_52 rfl 0 rfl ?_
            refine g_get (ci := 7) C 45 (jz := 45) rfl rfl kI7 rfl (by decide) rfl rfl wf_7_281 rfl D_Mo_room_53 ?_
            refine g_sub [] rfl ?_
            exact wj_Mo_room_56 C _ _
          · refine g_aload_n C D_Mo_room_45 rfl 0 rfl ?_
            refine g_get (ci := 7) C 44 (jz := 44) rfl rfl kI7 rfl (by decide) rfl rfl wf_7_278 rfl D_Mo_room_46 ?_
            refine g_goto (tgt := 56) C D_Mo_room_49 (by decide) ?_
            refine g_sub [] rfl ?_
            exact wj_Mo_room_56 C _ _) (fun s4 => by
          exact wj_Mo_room_73 C _) 200 _ _ _
    · refine g_sub [] rfl ?_
      exact wj_Mo_room_13 C _
theorem c_Mo_room {σ : gM} {v1 v2 : Int} {r : gR} (ho : F_Mo_room σ v1 v2 = some r) (hok : gOk [.inr (.inr 0), .inl v1, .inl v2]) (hin : gIn gctM σ) : gCt gctM Y_Mo_room prog_9_method_69_code 5 (some .int) 2 46 [.inr (.inr 0), .inl v1, .inl v2] σ r := g_entry (by decide) rfl (Nat.le_of_ble_eq_true rfl) ho hok hin (fun X C => w_Mo_room C σ v1 v2)
theorem D_Mo_blame_0 : decode prog_9_method_70_code 0 = .ok (.iload_n 1, 1) := by decide +kernel
theorem D_Mo_blame_1 : decode prog_9_method_70_code 1 = .ok (.iconst 0, 1) := by decide +kernel
theorem D_Mo_blame_2 : decode prog_9_method_70_code 2 = .ok (.bipush 7, 2) := by decide +kernel
theorem D_Mo_blame_4 : decode prog_9_method_70_code 4 = .ok (.invokestatic 147, 3) := by decide +kernel
theorem D_Mo_blame_7 : decode prog_9_method_70_code 7 = .ok (.ifCond .eq 12, 3) := by decide +kernel
theorem D_Mo_blame_10 : decode prog_9_method_70_code 10 = .ok (.aload_n 0, 1) := by decide +kernel
theorem D_Mo_blame_11 : decode prog_9_method_70_code 11 = .ok (.getfield 109, 3) := by decide +kernel
theorem D_Mo_blame_14 : decode prog_9_method_70_code 14 = .ok (.iload_n 1, 1) := by decide +kernel
theorem D_Mo_blame_15 : decode prog_9_method_70_code 15 = .ok (.laload, 1) := by decide +kernel
theorem D_Mo_blame_16 : decode prog_9_method_70_code 16 = .ok (.goto 6, 3) := by decide +kernel
theorem D_Mo_blame_19 : decode prog_9_method_70_code 19 = .ok (.ldc2_w 314, 3) := by decide +kernel
theorem D_Mo_blame_22 : decode prog_9_method_70_code 22 = .ok (.lreturn, 1) := by decide +kernel
def j_Mo_blame_22 (σ : gM) (t0 : Int) : gO :=
  some (σ, t0)
set_option maxHeartbeats 4000000 in
theorem wj_Mo_blame_22 {X : gX} (C : gC gctM prog_9_method_70_code kR7 2 1 22 (some .long) X) (σ : gM) (t0 : Int) : GG gctM X 22 [] [.inr (.inl t0)] σ (j_Mo_blame_22 σ t0) := by
  unfold j_Mo_blame_22
  exact g_lret C D_Mo_blame_22
def F_Mo_blame (σ : gM) (v1 : Int) : gO :=
  gk (F_Mo_in σ v1 0 7) fun s1 a2 =>
  if a2 = 0 then
  (j_Mo_blame_22 s1 (-1))
  else
  (gi v1 8 <|
  j_Mo_blame_22 s1 (s1 29 v1))
set_option maxHeartbeats 4000000 in
theorem w_Mo_blame {X : gX} (C : gC gctM prog_9_method_70_code kR7 2 1 22 (some .long) X) (σ : gM) (v1 : Int) : GG gctM X 0 [(0, .inr (.inr 0)), (1, .inl v1)] [] σ (F_Mo_blame σ v1) := by
  unfold F_Mo_blame
  refine g_iload_n C D_Mo_blame_0 rfl 1 rfl ?_
  refine g_iconst C D_Mo_blame_1 ⟨by decide, by decide⟩ ?_
  refine g_bipush C D_Mo_blame_2 (by decide) ⟨by decide, by decide⟩ ?_
  refine g_callSi C [.inl v1, .inl 0, .inl 7] [] (Or.inr rfl) rfl (fun _ h1 h2 h3 => c_Mo_in h1 h2 h3) wc_7_147 (by decide) (Nat.le_of_ble_eq_true rfl) D_Mo_blame_4 (fun s1 a2 => ?_)
  refine g_if_eq (tgt := 19) C D_Mo_blame_7 (by decide) ?_ ?_
  · refine g_ldc2 C D_Mo_blame_19 wk_7_314 ⟨by decide, by decide⟩ ?_
    refine g_sub [] rfl ?_
    exact wj_Mo_blame_22 C _ _
  · refine g_aload_n C D_Mo_blame_10 rfl 0 rfl ?_
    refine g_getr (ci := 7) C 41 rfl kI7 rfl (by decide) rfl rfl wf_7_109 D_Mo_blame_11 ?_
    refine g_iload_n C D_Mo_blame_14 rfl 1 rfl ?_
    refine g_lald C rfl rfl D_Mo_blame_15 ?_
    refine g_goto (tgt := 22) C D_Mo_blame_16 (by decide) ?_
    refine g_sub [] rfl ?_
    exact wj_Mo_blame_22 C _ _
theorem c_Mo_blame {σ : gM} {v1 : Int} {r : gR} (ho : F_Mo_blame σ v1 = some r) (hok : gOk [.inr (.inr 0), .inl v1]) (hin : gIn gctM σ) : gCt gctM Y_Mo_blame prog_9_method_70_code 2 (some .long) 1 22 [.inr (.inr 0), .inl v1] σ r := g_entry (by decide) rfl (Nat.le_of_ble_eq_true rfl) ho hok hin (fun X C => w_Mo_blame C σ v1)
theorem D_Mo_count_0 : decode prog_9_method_71_code 0 = .ok (.iload_n 1, 1) := by decide +kernel
theorem D_Mo_count_1 : decode prog_9_method_71_code 1 = .ok (.iconst 0, 1) := by decide +kernel
theorem D_Mo_count_2 : decode prog_9_method_71_code 2 = .ok (.bipush 15, 2) := by decide +kernel
theorem D_Mo_count_4 : decode prog_9_method_71_code 4 = .ok (.invokestatic 147, 3) := by decide +kernel
theorem D_Mo_count_7 : decode prog_9_method_71_code 7 = .ok (.ifCond .ne 5, 3) := by decide +kernel
theorem D_Mo_count_10 : decode prog_9_method_71_code 10 = .ok (.iconst (-1), 1) := by decide +kernel
theorem D_Mo_count_11 : decode prog_9_method_71_code 11 = .ok (.ireturn, 1) := by decide +kernel
theorem D_Mo_count_12 : decode prog_9_method_71_code 12 = .ok (.iconst 0, 1) := by decide +kernel
theorem D_Mo_count_13 : decode prog_9_method_71_code 13 = .ok (.istore_n 2, 1) := by decide +kernel
theorem D_Mo_count_14 : decode prog_9_method_71_code 14 = .ok (.iconst 0, 1) := by decide +kernel
theorem D_Mo_count_15 : decode prog_9_method_71_code 15 = .ok (.istore_n 3, 1) := by decide +kernel
theorem D_Mo_count_16 : decode prog_9_method_71_code 16 = .ok (.iload_n 3, 1) := by decide +kernel
theorem D_Mo_count_17 : decode prog_9_method_71_code 17 = .ok (.bipush 40, 2) := by decide +kernel
theorem D_Mo_count_19 : decode prog_9_method_71_code 19 = .ok (.if_icmp .ge 26, 3) := by decide +kernel
theorem D_Mo_count_22 : decode prog_9_method_71_code 22 = .ok (.iload_n 2, 1) := by decide +kernel
theorem D_Mo_count_23 : decode prog_9_method_71_code 23 = .ok (.aload_n 0, 1) := by decide +kernel
theorem D_Mo_count_24 : decode prog_9_method_71_code 24 = .ok (.getfield 84, 3) := by decide +kernel
theorem D_Mo_count_27 : decode prog_9_method_71_code 27 = .ok (.iload_n 3, 1) := by decide +kernel
theorem D_Mo_count_28 : decode prog_9_method_71_code 28 = .ok (.baload, 1) := by decide +kernel
theorem D_Mo_count_29 : decode prog_9_method_71_code 29 = .ok (.ifCond .eq 7, 3) := by decide +kernel
theorem D_Mo_count_32 : decode prog_9_method_71_code 32 = .ok (.iconst 1, 1) := by decide +kernel
theorem D_Mo_count_33 : decode prog_9_method_71_code 33 = .ok (.goto 4, 3) := by decide +kernel
theorem D_Mo_count_36 : decode prog_9_method_71_code 36 = .ok (.iconst 0, 1) := by decide +kernel
theorem D_Mo_count_37 : decode prog_9_method_71_code 37 = .ok (.iadd, 1) := by decide +kernel
theorem D_Mo_count_38 : decode prog_9_method_71_code 38 = .ok (.istore_n 2, 1) := by decide +kernel
theorem D_Mo_count_39 : decode prog_9_method_71_code 39 = .ok (.iinc 3 1, 3) := by decide +kernel
theorem D_Mo_count_42 : decode prog_9_method_71_code 42 = .ok (.goto (-26), 3) := by decide +kernel
theorem D_Mo_count_45 : decode prog_9_method_71_code 45 = .ok (.iload_n 1, 1) := by decide +kernel
theorem D_Mo_count_46 : decode prog_9_method_71_code 46 = .ok (.lookupswitch 47 #[(8, 34), (11, 39), (14, 41)], 34) := by decide +kernel
theorem D_Mo_count_80 : decode prog_9_method_71_code 80 = .ok (.aload_n 0, 1) := by decide +kernel
theorem D_Mo_count_81 : decode prog_9_method_71_code 81 = .ok (.getfield 141, 3) := by decide +kernel
theorem D_Mo_count_84 : decode prog_9_method_71_code 84 = .ok (.ireturn, 1) := by decide +kernel
theorem D_Mo_count_85 : decode prog_9_method_71_code 85 = .ok (.iload_n 2, 1) := by decide +kernel
theorem D_Mo_count_86 : decode prog_9_method_71_code 86 = .ok (.ireturn, 1) := by decide +kernel
theorem D_Mo_count_87 : decode prog_9_method_71_code 87 = .ok (.aload_n 0, 1) := by decide +kernel
theorem D_Mo_count_88 : decode prog_9_method_71_code 88 = .ok (.invokevirtual 262, 3) := by decide +kernel
theorem D_Mo_count_91 : decode prog_9_method_71_code 91 = .ok (.l2i, 1) := by decide +kernel
theorem D_Mo_count_92 : decode prog_9_method_71_code 92 = .ok (.ireturn, 1) := by decide +kernel
theorem D_Mo_count_93 : decode prog_9_method_71_code 93 = .ok (.aload_n 0, 1) := by decide +kernel
theorem D_Mo_count_94 : decode prog_9_method_71_code 94 = .ok (.getfield 112, 3) := by decide +kernel
theorem D_Mo_count_97 : decode prog_9_method_71_code 97 = .ok (.iload_n 1, 1) := by decide +kernel
theorem D_Mo_count_98 : decode prog_9_method_71_code 98 = .ok (.iaload, 1) := by decide +kernel
theorem D_Mo_count_99 : decode prog_9_method_71_code 99 = .ok (.ireturn, 1) := by decide +kernel
def j_Mo_count_37 (k1 : gM → Int → gO) (rec : gM → Int → Int → gO) (σ : gM) (p1 v3 t0 t1 : Int) : gO :=
  ga (t1 + t0) fun a1 =>
  ga (v3 + 1) fun a2 =>
  rec σ a1 a2
set_option maxHeartbeats 4000000 in
theorem wj_Mo_count_37 {X : gX} (C : gC gctM prog_9_method_71_code kR7 4 1 23 (some .int) X) {p1 : Int} {k1 : gM → Int → gO} (hk1 : ∀ (σ : gM) (a0 : Int), GG gctM X 45 [(0, .inr (.inr 0)), (1, .inl p1), (2, .inl a0)] [] σ (k1 σ a0)) {rec : gM → Int → Int → gO} (hrec : ∀ (σ : gM) (a0 a1 : Int), GG gctM X 16 [(0, .inr (.inr 0)), (1, .inl p1), (2, .inl a0), (3, .inl a1)] [] σ (rec σ a0 a1)) (σ : gM) (v3 t0 t1 : Int) : GG gctM X 37 [(0, .inr (.inr 0)), (1, .inl p1), (3, .inl v3)] [.inl t0, .inl t1] σ (j_Mo_count_37 k1 rec σ p1 v3 t0 t1) := by
  unfold j_Mo_count_37
  refine g_iadd C D_Mo_count_37 (fun a1 => ?_)
  refine g_istore_n (L' := [(2, .inl a1), (0, .inr (.inr 0)), (1, .inl p1), (3, .inl v3)]) C D_Mo_count_38 rfl (by decide) rfl ?_
  refine g_iinc (t := 3) (L' := fun z => [(3, .inl z), (2, .inl a1), (0, .inr (.inr 0)), (1, .inl p1)]) C D_Mo_count_39 rfl (by decide) (fun _ => rfl) (fun a2 => ?_)
  refine g_goto (tgt := 16) C D_Mo_count_42 (by decide) ?_
  refine g_sub [2, 3, 1, 0] rfl ?_
  exact hrec _ _ _
def l_Mo_count_16 (k1 : gM → Int → gO) (p1 : Int) (rec : gM → Int → Int → gO) (σ : gM) (v2 v3 : Int) : gO :=
  if v3 < 40 then
  (gi v3 40 <|
  if (σ 21 v3) = 0 then
  (j_Mo_count_37 k1 rec σ p1 v3 0 v2)
  else
  (j_Mo_count_37 k1 rec σ p1 v3 1 v2))
  else
  (k1 σ v2)
set_option maxHeartbeats 4000000 in
theorem wl_Mo_count_16 {X : gX} (C : gC gctM prog_9_method_71_code kR7 4 1 23 (some .int) X) {p1 : Int} {k1 : gM → Int → gO} (hk1 : ∀ (σ : gM) (a0 : Int), GG gctM X 45 [(0, .inr (.inr 0)), (1, .inl p1), (2, .inl a0)] [] σ (k1 σ a0)) : ∀ (n : Nat) (σ : gM) (a0 a1 : Int), GG gctM X 16 [(0, .inr (.inr 0)), (1, .inl p1), (2, .inl a0), (3, .inl a1)] [] σ (gl2 (l_Mo_count_16 k1 p1) n σ a0 a1) := by
  refine gl2_run (P := fun σ a0 a1 o => GG gctM X 16 [(0, .inr (.inr 0)), (1, .inl p1), (2, .inl a0), (3, .inl a1)] [] σ o) (fun _ _ _ => g_none) (fun rec hrec σ v2 v3 => ?_)
  unfold l_Mo_count_16
  refine g_iload_n C D_Mo_count_16 rfl 3 rfl ?_
  refine g_bipush C D_Mo_count_17 (by decide) ⟨by decide, by decide⟩ ?_
  refine g_icmp_ge (tgt := 45) C D_Mo_count_19 (by decide) ?_ ?_
  · refine g_sub [0, 1, 2] rfl ?_
    exact hk1 _ _
  · refine g_iload_n C D_Mo_count_22 rfl 2 rfl ?_
    refine g_aload_n C D_Mo_count_23 rfl 0 rfl ?_
    refine g_getr (ci := 7) C 32 rfl kI7 rfl (by decide) rfl rfl wf_7_84 D_Mo_count_24 ?_
    refine g_iload_n C D_Mo_count_27 rfl 3 rfl ?_
    refine g_zald C rfl rfl rfl D_Mo_count_28 ?_
    refine g_if_eq (tgt := 36) C D_Mo_count_29 (by decide) ?_ ?_
    · refine g_iconst C D_Mo_count_36 ⟨by decide, by decide⟩ ?_
      refine g_sub [0, 1, 3] rfl ?_
      exact wj_Mo_count_37 C hk1 hrec _ _ _ _
    · refine g_iconst C D_Mo_count_32 ⟨by decide, by decide⟩ ?_
      refine g_goto (tgt := 37) C D_Mo_count_33 (by decide) ?_
      refine g_sub [0, 1, 3] rfl ?_
      exact wj_Mo_count_37 C hk1 hrec _ _ _ _
def F_Mo_count (σ : gM) (v1 : Int) : gO :=
  gk (F_Mo_in σ v1 0 15) fun s1 a2 =>
  if a2 = 0 then
  (some (s1, (-1)))
  else
  (gl2 (l_Mo_count_16 (fun s4 b3 => if v1 = 8 then
  (some (s4, (s4 0 4)))
  else if v1 = 11 then
  (some (s4, b3))
  else if v1 = 14 then
  (gk (F_Mo_allTicks s4) fun s5 a6 =>
  ga a6 fun a7 =>
  some (s5, a7))
  else (gi v1 16 <|
  some (s4, (s4 30 v1)))) v1) 200 s1 0 0)
set_option maxHeartbeats 4000000 in
theorem w_Mo_count {X : gX} (C : gC gctM prog_9_method_71_code kR7 4 1 23 (some .int) X) (σ : gM) (v1 : Int) : GG gctM X 0 [(0, .inr (.inr 0)), (1, .inl v1)] [] σ (F_Mo_count σ v1) := by
  unfold F_Mo_count
  refine g_iload_n C D_Mo_count_0 rfl 1 rfl ?_
  refine g_iconst C D_Mo_count_1 ⟨by decide, by decide⟩ ?_
  refine g_bipush C D_Mo_count_2 (by decide) ⟨by decide, by decide⟩ ?_
  refine g_callSi C [.inl v1, .inl 0, .inl 15] [] (Or.inr rfl) rfl (fun _ h1 h2 h3 => c_Mo_in h1 h2 h3) wc_7_147 (by decide) (Nat.le_of_ble_eq_true rfl) D_Mo_count_4 (fun s1 a2 => ?_)
  refine g_if_ne (tgt := 12) C D_Mo_count_7 (by decide) ?_ ?_
  · refine g_iconst C D_Mo_count_12 ⟨by decide, by decide⟩ ?_
    refine g_istore_n (L' := [(2, .inl 0), (0, .inr (.inr 0)), (1, .inl v1)]) C D_Mo_count_13 rfl (by decide) rfl ?_
    refine g_iconst C D_Mo_count_14 ⟨by decide, by decide⟩ ?_
    refine g_istore_n (L' := [(3, .inl 0), (2, .inl 0), (0, .inr (.inr 0)), (1, .inl v1)]) C D_Mo_count_15 rfl (by decide) rfl ?_
    refine g_sub [2, 3, 1, 0] rfl ?_
    exact wl_Mo_count_16 C (fun s4 b3 => by
        refine g_iload_n C D_Mo_count_45 rfl 1 rfl ?_
        refine g_ite _ (fun h0 => ?_) (fun h0 => ?_)
        · refine g_look (off := 34) (tgt := 80) C D_Mo_count_46 (by decide) (by rw [h0]; decide) (by decide) ?_
          refine g_aload_n C D_Mo_count_80 rfl 0 rfl ?_
          refine g_get (ci := 7) C 4 (jz := 4) rfl rfl kI7 rfl (by decide) rfl rfl wf_7_141 rfl D_Mo_count_81 ?_
          exact g_iret C D_Mo_count_84
        refine g_ite _ (fun h1 => ?_) (fun h1 => ?_)
        · refine g_look (off := 39) (tgt := 85) C D_Mo_count_46 (by decide) (by rw [h1]; decide) (by decide) ?_
          refine g_iload_n C D_Mo_count_85 rfl 2 rfl ?_
          exact g_iret C D_Mo_count_86
        refine g_ite _ (fun h2 => ?_) (fun h2 => ?_)
        · refine g_look (off := 41) (tgt := 87) C D_Mo_count_46 (by decide) (by rw [h2]; decide) (by decide) ?_
          refine g_aload_n C D_Mo_count_87 rfl 0 rfl ?_
          refine g_callVl (ci := 7) C [] [] rfl rfl (fun _ h1 h2 h3 => c_Mo_allTicks h1 h2 h3) rfl rfl wc_7_262 (by decide) (Nat.le_of_ble_eq_true rfl) D_Mo_count_88 (fun s5 a6 => ?_)
          refine g_l2i C D_Mo_count_91 (fun a7 => ?_)
          exact g_iret C D_Mo_count_92
        refine g_look (off := 47) (tgt := 93) C D_Mo_count_46 (by decide) (by show Op.lookupswitch.offset [(8, 34), (11, 39), (14, 41)] 47 _ = _; rw [Op.lookupswitch.offset_cons, if_neg (fun q => h0 q.symm), Op.lookupswitch.offset_cons, if_neg (fun q => h1 q.symm), Op.lookupswitch.offset_cons, if_neg (fun q => h2 q.symm)]; rfl) (by decide) ?_
        refine g_aload_n C D_Mo_count_93 rfl 0 rfl ?_
        refine g_getr (ci := 7) C 42 rfl kI7 rfl (by decide) rfl rfl wf_7_112 D_Mo_count_94 ?_
        refine g_iload_n C D_Mo_count_97 rfl 1 rfl ?_
        refine g_iald C rfl rfl rfl D_Mo_count_98 ?_
        exact g_iret C D_Mo_count_99) 200 _ _ _
  · refine g_iconst C D_Mo_count_10 ⟨by decide, by decide⟩ ?_
    exact g_iret C D_Mo_count_11
theorem c_Mo_count {σ : gM} {v1 : Int} {r : gR} (ho : F_Mo_count σ v1 = some r) (hok : gOk [.inr (.inr 0), .inl v1]) (hin : gIn gctM σ) : gCt gctM Y_Mo_count prog_9_method_71_code 4 (some .int) 1 23 [.inr (.inr 0), .inl v1] σ r := g_entry (by decide) rfl (Nat.le_of_ble_eq_true rfl) ho hok hin (fun X C => w_Mo_count C σ v1)
