/-! by program: functions of the methods and their walks: Co_room, Co_blame, Co_count -/
theorem D_Co_room_0 : decode prog_1_method_22_code 0 = .ok (.iload_n 1, 1) := by decide +kernel
theorem D_Co_room_1 : decode prog_1_method_22_code 1 = .ok (.ifCond .lt 11, 3) := by decide +kernel
theorem D_Co_room_4 : decode prog_1_method_22_code 4 = .ok (.iload_n 2, 1) := by decide +kernel
theorem D_Co_room_5 : decode prog_1_method_22_code 5 = .ok (.iconst 1, 1) := by decide +kernel
theorem D_Co_room_6 : decode prog_1_method_22_code 6 = .ok (.invokestatic 56, 3) := by decide +kernel
theorem D_Co_room_9 : decode prog_1_method_22_code 9 = .ok (.ifCond .ne 5, 3) := by decide +kernel
theorem D_Co_room_12 : decode prog_1_method_22_code 12 = .ok (.iconst (-1), 1) := by decide +kernel
theorem D_Co_room_13 : decode prog_1_method_22_code 13 = .ok (.ireturn, 1) := by decide +kernel
theorem D_Co_room_14 : decode prog_1_method_22_code 14 = .ok (.aload_n 0, 1) := by decide +kernel
theorem D_Co_room_15 : decode prog_1_method_22_code 15 = .ok (.getfield 52, 3) := by decide +kernel
theorem D_Co_room_18 : decode prog_1_method_22_code 18 = .ok (.iload_n 1, 1) := by decide +kernel
theorem D_Co_room_19 : decode prog_1_method_22_code 19 = .ok (.invokevirtual 177, 3) := by decide +kernel
theorem D_Co_room_22 : decode prog_1_method_22_code 22 = .ok (.istore_n 3, 1) := by decide +kernel
theorem D_Co_room_23 : decode prog_1_method_22_code 23 = .ok (.iload_n 3, 1) := by decide +kernel
theorem D_Co_room_24 : decode prog_1_method_22_code 24 = .ok (.bipush (-4), 2) := by decide +kernel
theorem D_Co_room_26 : decode prog_1_method_22_code 26 = .ok (.if_icmp .ne 6, 3) := by decide +kernel
theorem D_Co_room_29 : decode prog_1_method_22_code 29 = .ok (.bipush (-4), 2) := by decide +kernel
theorem D_Co_room_31 : decode prog_1_method_22_code 31 = .ok (.ireturn, 1) := by decide +kernel
theorem D_Co_room_32 : decode prog_1_method_22_code 32 = .ok (.iload_n 2, 1) := by decide +kernel
theorem D_Co_room_33 : decode prog_1_method_22_code 33 = .ok (.ifCond .ne 7, 3) := by decide +kernel
theorem D_Co_room_36 : decode prog_1_method_22_code 36 = .ok (.iload_n 3, 1) := by decide +kernel
theorem D_Co_room_37 : decode prog_1_method_22_code 37 = .ok (.goto 13, 3) := by decide +kernel
theorem D_Co_room_40 : decode prog_1_method_22_code 40 = .ok (.aload_n 0, 1) := by decide +kernel
theorem D_Co_room_41 : decode prog_1_method_22_code 41 = .ok (.getfield 52, 3) := by decide +kernel
theorem D_Co_room_44 : decode prog_1_method_22_code 44 = .ok (.iload_n 3, 1) := by decide +kernel
theorem D_Co_room_45 : decode prog_1_method_22_code 45 = .ok (.invokevirtual 180, 3) := by decide +kernel
theorem D_Co_room_48 : decode prog_1_method_22_code 48 = .ok (.iload_n 3, 1) := by decide +kernel
theorem D_Co_room_49 : decode prog_1_method_22_code 49 = .ok (.isub, 1) := by decide +kernel
theorem D_Co_room_50 : decode prog_1_method_22_code 50 = .ok (.ireturn, 1) := by decide +kernel
def j_Co_room_12 (σ : gM) : gO :=
  some (σ, (-1))
set_option maxHeartbeats 4000000 in
theorem wj_Co_room_12 {X : gX} (C : gC gctC prog_1_method_22_code kR6 4 3 70 (some .int) X) (σ : gM) : GG gctC X 12 [] [] σ (j_Co_room_12 σ) := by
  unfold j_Co_room_12
  refine g_iconst C D_Co_room_12 ⟨by decide, by decide⟩ ?_
  exact g_iret C D_Co_room_13
def j_Co_room_50 (σ : gM) (t0 : Int) : gO :=
  some (σ, t0)
set_option maxHeartbeats 4000000 in
theorem wj_Co_room_50 {X : gX} (C : gC gctC prog_1_method_22_code kR6 4 3 70 (some .int) X) (σ : gM) (t0 : Int) : GG gctC X 50 [] [.inl t0] σ (j_Co_room_50 σ t0) := by
  unfold j_Co_room_50
  exact g_iret C D_Co_room_50
def F_Co_room (σ : gM) (v1 v2 : Int) : gO :=
  if v1 < 0 then
  (j_Co_room_12 σ)
  else
  (gk (F_Co_within σ v2 1) fun s1 a2 =>
  if a2 = 0 then
  (j_Co_room_12 s1)
  else
  (gk (F_He_freeRoom s1 v1) fun s3 a4 =>
  if a4 = (-4) then
  (some (s3, (-4)))
  else
  (if v2 = 0 then
  (j_Co_room_50 s3 a4)
  else
  (gk (F_He_freeEnd s3 a4) fun s5 a6 =>
  ga (a6 - a4) fun a7 =>
  j_Co_room_50 s5 a7))))
set_option maxHeartbeats 4000000 in
theorem w_Co_room {X : gX} (C : gC gctC prog_1_method_22_code kR6 4 3 70 (some .int) X) (σ : gM) (v1 v2 : Int) : GG gctC X 0 [(0, .inr (.inr 0)), (1, .inl v1), (2, .inl v2)] [] σ (F_Co_room σ v1 v2) := by
  unfold F_Co_room
  refine g_iload_n C D_Co_room_0 rfl 1 rfl ?_
  refine g_if_lt (tgt := 12) C D_Co_room_1 (by decide) ?_ ?_
  · refine g_sub [] rfl ?_
    exact wj_Co_room_12 C _
  · refine g_iload_n C D_Co_room_4 rfl 2 rfl ?_
    refine g_iconst C D_Co_room_5 ⟨by decide, by decide⟩ ?_
    refine g_callSi C [.inl v2, .inl 1] [] (Or.inr rfl) rfl (fun _ h1 h2 h3 => c_Co_within h1 h2 h3) wc_6_56 (by decide) (Nat.le_of_ble_eq_true rfl) D_Co_room_6 (fun s1 a2 => ?_)
    refine g_if_ne (tgt := 14) C D_Co_room_9 (by decide) ?_ ?_
    · refine g_aload_n C D_Co_room_14 rfl 0 rfl ?_
      refine g_getr (ci := 6) C 5 rfl kI6 rfl (by decide) rfl rfl wf_6_52 D_Co_room_15 ?_
      refine g_iload_n C D_Co_room_18 rfl 1 rfl ?_
      refine g_callVi (ci := 2) C [.inl v1] [] (Or.inl rfl) rfl (fun _ h1 h2 h3 => c_He_freeRoom h1 h2 h3) rfl rfl wc_6_177 (by decide) (Nat.le_of_ble_eq_true rfl) D_Co_room_19 (fun s3 a4 => ?_)
      refine g_istore_n (L' := [(3, .inl a4), (0, .inr (.inr 0)), (1, .inl v1), (2, .inl v2)]) C D_Co_room_22 rfl (by decide) rfl ?_
      refine g_iload_n C D_Co_room_23 rfl 0 rfl ?_
      refine g_bipush C D_Co_room_24 (by decide) ⟨by decide, by decide⟩ ?_
      refine g_icmp_ne (tgt := 32) C D_Co_room_26 (by decide) ?_ ?_
      · refine g_iload_n C D_Co_room_32 rfl 3 rfl ?_
        refine g_if_ne (tgt := 40) C D_Co_room_33 (by decide) ?_ ?_
        · refine g_aload_n C D_Co_room_40 rfl 1 rfl ?_
          refine g_getr (ci := 6) C 5 rfl kI6 rfl (by decide) rfl rfl wf_6_52 D_Co_room_41 ?_
          refine g_iload_n C D_Co_room_44 rfl 0 rfl ?_
          refine g_callVi (ci := 2) C [.inl a4] [] (Or.inl rfl) rfl (fun _ h1 h2 h3 => c_He_freeEnd h1 h2 h3) rfl rfl wc_6_180 (by decide) (Nat.le_of_ble_eq_true rfl) D_Co_room_45 (fun s5 a6 => ?_)
          refine g_iload_n C D_Co_room_48 rfl 0 rfl ?_
          refine g_isub C D_Co_room_49 (fun a7 => ?_)
          refine g_sub [] rfl ?_
          exact wj_Co_room_50 C _ _
        · refine g_iload_n C D_Co_room_36 rfl 0 rfl ?_
          refine g_goto (tgt := 50) C D_Co_room_37 (by decide) ?_
          refine g_sub [] rfl ?_
          exact wj_Co_room_50 C _ _
      · refine g_bipush C D_Co_room_29 (by decide) ⟨by decide, by decide⟩ ?_
        exact g_iret C D_Co_room_31
    · refine g_sub [] rfl ?_
      exact wj_Co_room_12 C _
theorem c_Co_room {σ : gM} {v1 v2 : Int} {r : gR} (ho : F_Co_room σ v1 v2 = some r) (hok : gOk [.inr (.inr 0), .inl v1, .inl v2]) (hin : gIn gctC σ) : gCt gctC Y_Co_room prog_1_method_22_code 4 (some .int) 3 70 [.inr (.inr 0), .inl v1, .inl v2] σ r := g_entry (by decide) rfl (Nat.le_of_ble_eq_true rfl) ho hok hin (fun X C => w_Co_room C σ v1 v2)
theorem D_Co_blame_0 : decode prog_1_method_23_code 0 = .ok (.iload_n 1, 1) := by decide +kernel
theorem D_Co_blame_1 : decode prog_1_method_23_code 1 = .ok (.bipush 7, 2) := by decide +kernel
theorem D_Co_blame_3 : decode prog_1_method_23_code 3 = .ok (.invokestatic 56, 3) := by decide +kernel
theorem D_Co_blame_6 : decode prog_1_method_23_code 6 = .ok (.ifCond .ne 7, 3) := by decide +kernel
theorem D_Co_blame_9 : decode prog_1_method_23_code 9 = .ok (.ldc2_w 183, 3) := by decide +kernel
theorem D_Co_blame_12 : decode prog_1_method_23_code 12 = .ok (.lreturn, 1) := by decide +kernel
theorem D_Co_blame_13 : decode prog_1_method_23_code 13 = .ok (.aload_n 0, 1) := by decide +kernel
theorem D_Co_blame_14 : decode prog_1_method_23_code 14 = .ok (.getfield 16, 3) := by decide +kernel
theorem D_Co_blame_17 : decode prog_1_method_23_code 17 = .ok (.getfield 185, 3) := by decide +kernel
theorem D_Co_blame_20 : decode prog_1_method_23_code 20 = .ok (.iload_n 1, 1) := by decide +kernel
theorem D_Co_blame_21 : decode prog_1_method_23_code 21 = .ok (.iaload, 1) := by decide +kernel
theorem D_Co_blame_22 : decode prog_1_method_23_code 22 = .ok (.i2l, 1) := by decide +kernel
theorem D_Co_blame_23 : decode prog_1_method_23_code 23 = .ok (.lreturn, 1) := by decide +kernel
def F_Co_blame (σ : gM) (v1 : Int) : gO :=
  gk (F_Co_within σ v1 7) fun s1 a2 =>
  if a2 = 0 then
  (some (s1, (-1)))
  else
  (gi v1 8 <|
  some (s1, (s1 3 v1)))
set_option maxHeartbeats 4000000 in
theorem w_Co_blame {X : gX} (C : gC gctC prog_1_method_23_code kR6 2 1 21 (some .long) X) (σ : gM) (v1 : Int) : GG gctC X 0 [(0, .inr (.inr 0)), (1, .inl v1)] [] σ (F_Co_blame σ v1) := by
  unfold F_Co_blame
  refine g_iload_n C D_Co_blame_0 rfl 1 rfl ?_
  refine g_bipush C D_Co_blame_1 (by decide) ⟨by decide, by decide⟩ ?_
  refine g_callSi C [.inl v1, .inl 7] [] (Or.inr rfl) rfl (fun _ h1 h2 h3 => c_Co_within h1 h2 h3) wc_6_56 (by decide) (Nat.le_of_ble_eq_true rfl) D_Co_blame_3 (fun s1 a2 => ?_)
  refine g_if_ne (tgt := 13) C D_Co_blame_6 (by decide) ?_ ?_
  · refine g_aload_n C D_Co_blame_13 rfl 0 rfl ?_
    refine g_getr (ci := 6) C 1 rfl kI6 rfl (by decide) rfl rfl wf_6_16 D_Co_blame_14 ?_
    refine g_getr (ci := 3) C 0 rfl kI3 rfl (by decide) rfl rfl wf_6_185 D_Co_blame_17 ?_
    refine g_iload_n C D_Co_blame_20 rfl 1 rfl ?_
    refine g_iald C rfl rfl rfl D_Co_blame_21 ?_
    refine g_i2l C D_Co_blame_22 ?_
    exact g_lret C D_Co_blame_23
  · refine g_ldc2 C D_Co_blame_9 wk_6_183 ⟨by decide, by decide⟩ ?_
    exact g_lret C D_Co_blame_12
theorem c_Co_blame {σ : gM} {v1 : Int} {r : gR} (ho : F_Co_blame σ v1 = some r) (hok : gOk [.inr (.inr 0), .inl v1]) (hin : gIn gctC σ) : gCt gctC Y_Co_blame prog_1_method_23_code 2 (some .long) 1 21 [.inr (.inr 0), .inl v1] σ r := g_entry (by decide) rfl (Nat.le_of_ble_eq_true rfl) ho hok hin (fun X C => w_Co_blame C σ v1)
theorem D_Co_count_0 : decode prog_1_method_24_code 0 = .ok (.iload_n 1, 1) := by decide +kernel
theorem D_Co_count_1 : decode prog_1_method_24_code 1 = .ok (.bipush 15, 2) := by decide +kernel
theorem D_Co_count_3 : decode prog_1_method_24_code 3 = .ok (.invokestatic 56, 3) := by decide +kernel
theorem D_Co_count_6 : decode prog_1_method_24_code 6 = .ok (.ifCond .ne 5, 3) := by decide +kernel
theorem D_Co_count_9 : decode prog_1_method_24_code 9 = .ok (.iconst (-1), 1) := by decide +kernel
theorem D_Co_count_10 : decode prog_1_method_24_code 10 = .ok (.ireturn, 1) := by decide +kernel
theorem D_Co_count_11 : decode prog_1_method_24_code 11 = .ok (.aload_n 0, 1) := by decide +kernel
theorem D_Co_count_12 : decode prog_1_method_24_code 12 = .ok (.getfield 16, 3) := by decide +kernel
theorem D_Co_count_15 : decode prog_1_method_24_code 15 = .ok (.getfield 116, 3) := by decide +kernel
theorem D_Co_count_18 : decode prog_1_method_24_code 18 = .ok (.iload_n 1, 1) := by decide +kernel
theorem D_Co_count_19 : decode prog_1_method_24_code 19 = .ok (.iaload, 1) := by decide +kernel
theorem D_Co_count_20 : decode prog_1_method_24_code 20 = .ok (.ireturn, 1) := by decide +kernel
def F_Co_count (σ : gM) (v1 : Int) : gO :=
  gk (F_Co_within σ v1 15) fun s1 a2 =>
  if a2 = 0 then
  (some (s1, (-1)))
  else
  (gi v1 16 <|
  some (s1, (s1 4 v1)))
set_option maxHeartbeats 4000000 in
theorem w_Co_count {X : gX} (C : gC gctC prog_1_method_24_code kR6 2 1 21 (some .int) X) (σ : gM) (v1 : Int) : GG gctC X 0 [(0, .inr (.inr 0)), (1, .inl v1)] [] σ (F_Co_count σ v1) := by
  unfold F_Co_count
  refine g_iload_n C D_Co_count_0 rfl 1 rfl ?_
  refine g_bipush C D_Co_count_1 (by decide) ⟨by decide, by decide⟩ ?_
  refine g_callSi C [.inl v1, .inl 15] [] (Or.inr rfl) rfl (fun _ h1 h2 h3 => c_Co_within h1 h2 h3) wc_6_56 (by decide) (Nat.le_of_ble_eq_true rfl) D_Co_count_3 (fun s1 a2 => ?_)
  refine g_if_ne (tgt := 11) C D_Co_count_6 (by decide) ?_ ?_
  · refine g_aload_n C D_Co_count_11 rfl 0 rfl ?_
    refine g_getr (ci := 6) C 1 rfl kI6 rfl (by decide) rfl rfl wf_6_16 D_Co_count_12 ?_
    refine g_getr (ci := 3) C 1 rfl kI3 rfl (by decide) rfl rfl wf_6_116 D_Co_count_15 ?_
    refine g_iload_n C D_Co_count_18 rfl 1 rfl ?_
    refine g_iald C rfl rfl rfl D_Co_count_19 ?_
    exact g_iret C D_Co_count_20
  · refine g_iconst C D_Co_count_9 ⟨by decide, by decide⟩ ?_
    exact g_iret C D_Co_count_10
theorem c_Co_count {σ : gM} {v1 : Int} {r : gR} (ho : F_Co_count σ v1 = some r) (hok : gOk [.inr (.inr 0), .inl v1]) (hin : gIn gctC σ) : gCt gctC Y_Co_count prog_1_method_24_code 2 (some .int) 1 21 [.inr (.inr 0), .inl v1] σ r := g_entry (by decide) rfl (Nat.le_of_ble_eq_true rfl) ho hok hin (fun X C => w_Co_count C σ v1)
