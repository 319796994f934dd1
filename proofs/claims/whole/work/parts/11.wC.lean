/-! by program: functions of the methods and their walks: He_has, He_hasField, He_freeNumber, He_place, He_rounded, He_objectFrom, He_freeStart, He_freeEnd, He_freeRoom, He_roomFor, He_putBehind, He_startRow, Ru_pageAt, Ru_append, Me_handStops, Me_earliest_r25, Me_earliest_r24, Me_frameToFill, Me_arrive, Me_leave, Me_touch, He_follow, He_buryOthers, He_closeUp -/
theorem D_He_has_0 : decode prog_4_method_2_code 0 = .ok (.iload_n 1, 1) := by decide +kernel
theorem D_He_has_1 : decode prog_4_method_2_code 1 = .ok (.ifCond .lt 24, 3) := by decide +kernel
theorem D_He_has_4 : decode prog_4_method_2_code 4 = .ok (.iload_n 1, 1) := by decide +kernel
theorem D_He_has_5 : decode prog_4_method_2_code 5 = .ok (.bipush 40, 2) := by decide +kernel
theorem D_He_has_7 : decode prog_4_method_2_code 7 = .ok (.if_icmp .ge 18, 3) := by decide +kernel
theorem D_He_has_10 : decode prog_4_method_2_code 10 = .ok (.aload_n 0, 1) := by decide +kernel
theorem D_He_has_11 : decode prog_4_method_2_code 11 = .ok (.getfield 9, 3) := by decide +kernel
theorem D_He_has_14 : decode prog_4_method_2_code 14 = .ok (.iload_n 1, 1) := by decide +kernel
theorem D_He_has_15 : decode prog_4_method_2_code 15 = .ok (.iaload, 1) := by decide +kernel
theorem D_He_has_16 : decode prog_4_method_2_code 16 = .ok (.bipush (-4), 2) := by decide +kernel
theorem D_He_has_18 : decode prog_4_method_2_code 18 = .ok (.if_icmp .eq 7, 3) := by decide +kernel
theorem D_He_has_21 : decode prog_4_method_2_code 21 = .ok (.iconst 1, 1) := by decide +kernel
theorem D_He_has_22 : decode prog_4_method_2_code 22 = .ok (.goto 4, 3) := by decide +kernel
theorem D_He_has_25 : decode prog_4_method_2_code 25 = .ok (.iconst 0, 1) := by decide +kernel
theorem D_He_has_26 : decode prog_4_method_2_code 26 = .ok (.ireturn, 1) := by decide +kernel
def j_He_has_26 (σ : gM) (t0 : Int) : gO :=
  gb t0 (some (σ, t0))
set_option maxHeartbeats 4000000 in
theorem wj_He_has_26 {X : gX} (C : gC gctC prog_4_method_2_code kR2 2 0 0 (some .boolean) X) (σ : gM) (t0 : Int) : GG gctC X 26 [] [.inl t0] σ (j_He_has_26 σ t0) := by
  unfold j_He_has_26
  exact g_zret C D_He_has_26
def j_He_has_25 (σ : gM) : gO :=
  j_He_has_26 σ 0
set_option maxHeartbeats 4000000 in
theorem wj_He_has_25 {X : gX} (C : gC gctC prog_4_method_2_code kR2 2 0 0 (some .boolean) X) (σ : gM) : GG gctC X 25 [] [] σ (j_He_has_25 σ) := by
  unfold j_He_has_25
  refine g_iconst C D_He_has_25 ⟨by decide, by decide⟩ ?_
  exact wj_He_has_26 C _ _
def F_He_has (σ : gM) (v1 : Int) : gO :=
  if v1 < 0 then
  (j_He_has_25 σ)
  else
  (if v1 < 40 then
  (gi v1 40 <|
  if (σ 29 v1) = (-4) then
  (j_He_has_25 σ)
  else
  (j_He_has_26 σ 1))
  else
  (j_He_has_25 σ))
set_option maxHeartbeats 4000000 in
theorem w_He_has {X : gX} (C : gC gctC prog_4_method_2_code kR2 2 0 0 (some .boolean) X) (σ : gM) (v1 : Int) : GG gctC X 0 [(0, .inr (.inr 28)), (1, .inl v1)] [] σ (F_He_has σ v1) := by
  unfold F_He_has
  refine g_iload_n C D_He_has_0 rfl 1 rfl ?_
  refine g_if_lt (tgt := 25) C D_He_has_1 (by decide) ?_ ?_
  · refine g_sub [] rfl ?_
    exact wj_He_has_25 C _
  · refine g_iload_n C D_He_has_4 rfl 1 rfl ?_
    refine g_bipush C D_He_has_5 (by decide) ⟨by decide, by decide⟩ ?_
    refine g_icmp_ge (tgt := 25) C D_He_has_7 (by decide) ?_ ?_
    · refine g_sub [] rfl ?_
      exact wj_He_has_25 C _
    · refine g_aload_n C D_He_has_10 rfl 0 rfl ?_
      refine g_getr (ci := 2) C 0 rfl kI2 rfl (by decide) rfl rfl wf_2_9 D_He_has_11 ?_
      refine g_iload_n C D_He_has_14 rfl 1 rfl ?_
      refine g_iald C rfl rfl rfl D_He_has_15 ?_
      refine g_bipush C D_He_has_16 (by decide) ⟨by decide, by decide⟩ ?_
      refine g_icmp_eq (tgt := 25) C D_He_has_18 (by decide) ?_ ?_
      · refine g_sub [] rfl ?_
        exact wj_He_has_25 C _
      · refine g_iconst C D_He_has_21 ⟨by decide, by decide⟩ ?_
        refine g_goto (tgt := 26) C D_He_has_22 (by decide) ?_
        refine g_sub [] rfl ?_
        exact wj_He_has_26 C _ _
theorem c_He_has {σ : gM} {v1 : Int} {r : gR} (ho : F_He_has σ v1 = some r) (hok : gOk [.inr (.inr 28), .inl v1]) (hin : gIn gctC σ) : gCt gctC Y_He_has prog_4_method_2_code 2 (some .boolean) 0 0 [.inr (.inr 28), .inl v1] σ r := g_entry (by decide) rfl (Nat.le_of_ble_eq_true rfl) ho hok hin (fun X C => w_He_has C σ v1)
theorem D_He_hasField_0 : decode prog_4_method_3_code 0 = .ok (.aload_n 0, 1) := by decide +kernel
theorem D_He_hasField_1 : decode prog_4_method_3_code 1 = .ok (.iload_n 1, 1) := by decide +kernel
theorem D_He_hasField_2 : decode prog_4_method_3_code 2 = .ok (.invokevirtual 55, 3) := by decide +kernel
theorem D_He_hasField_5 : decode prog_4_method_3_code 5 = .ok (.ifCond .eq 21, 3) := by decide +kernel
theorem D_He_hasField_8 : decode prog_4_method_3_code 8 = .ok (.iload_n 2, 1) := by decide +kernel
theorem D_He_hasField_9 : decode prog_4_method_3_code 9 = .ok (.ifCond .lt 17, 3) := by decide +kernel
theorem D_He_hasField_12 : decode prog_4_method_3_code 12 = .ok (.iload_n 2, 1) := by decide +kernel
theorem D_He_hasField_13 : decode prog_4_method_3_code 13 = .ok (.aload_n 0, 1) := by decide +kernel
theorem D_He_hasField_14 : decode prog_4_method_3_code 14 = .ok (.getfield 15, 3) := by decide +kernel
theorem D_He_hasField_17 : decode prog_4_method_3_code 17 = .ok (.iload_n 1, 1) := by decide +kernel
theorem D_He_hasField_18 : decode prog_4_method_3_code 18 = .ok (.iaload, 1) := by decide +kernel
theorem D_He_hasField_19 : decode prog_4_method_3_code 19 = .ok (.if_icmp .ge 7, 3) := by decide +kernel
theorem D_He_hasField_22 : decode prog_4_method_3_code 22 = .ok (.iconst 1, 1) := by decide +kernel
theorem D_He_hasField_23 : decode prog_4_method_3_code 23 = .ok (.goto 4, 3) := by decide +kernel
theorem D_He_hasField_26 : decode prog_4_method_3_code 26 = .ok (.iconst 0, 1) := by decide +kernel
theorem D_He_hasField_27 : decode prog_4_method_3_code 27 = .ok (.ireturn, 1) := by decide +kernel
def j_He_hasField_27 (σ : gM) (t0 : Int) : gO :=
  gb t0 (some (σ, t0))
set_option maxHeartbeats 4000000 in
theorem wj_He_hasField_27 {X : gX} (C : gC gctC prog_4_method_3_code kR2 3 1 21 (some .boolean) X) (σ : gM) (t0 : Int) : GG gctC X 27 [] [.inl t0] σ (j_He_hasField_27 σ t0) := by
  unfold j_He_hasField_27
  exact g_zret C D_He_hasField_27
def j_He_hasField_26 (σ : gM) : gO :=
  j_He_hasField_27 σ 0
set_option maxHeartbeats 4000000 in
theorem wj_He_hasField_26 {X : gX} (C : gC gctC prog_4_method_3_code kR2 3 1 21 (some .boolean) X) (σ : gM) : GG gctC X 26 [] [] σ (j_He_hasField_26 σ) := by
  unfold j_He_hasField_26
  refine g_iconst C D_He_hasField_26 ⟨by decide, by decide⟩ ?_
  exact wj_He_hasField_27 C _ _
def F_He_hasField (σ : gM) (v1 v2 : Int) : gO :=
  gk (F_He_has σ v1) fun s1 a2 =>
  if a2 = 0 then
  (j_He_hasField_26 s1)
  else
  (if v2 < 0 then
  (j_He_hasField_26 s1)
  else
  (gi v1 40 <|
  if v2 < (s1 30 v1) then
  (j_He_hasField_27 s1 1)
  else
  (j_He_hasField_26 s1)))
set_option maxHeartbeats 4000000 in
theorem w_He_hasField {X : gX} (C : gC gctC prog_4_method_3_code kR2 3 1 21 (some .boolean) X) (σ : gM) (v1 v2 : Int) : GG gctC X 0 [(0, .inr (.inr 28)), (1, .inl v1), (2, .inl v2)] [] σ (F_He_hasField σ v1 v2) := by
  unfold F_He_hasField
  refine g_aload_n C D_He_hasField_0 rfl 0 rfl ?_
  refine g_iload_n C D_He_hasField_1 rfl 1 rfl ?_
  refine g_callVi (ci := 2) C [.inl v1] [] (Or.inr rfl) rfl (fun _ h1 h2 h3 => c_He_has h1 h2 h3) rfl rfl wc_2_55 (by decide) (Nat.le_of_ble_eq_true rfl) D_He_hasField_2 (fun s1 a2 => ?_)
  refine g_if_eq (tgt := 26) C D_He_hasField_5 (by decide) ?_ ?_
  · refine g_sub [] rfl ?_
    exact wj_He_hasField_26 C _
  · refine g_iload_n C D_He_hasField_8 rfl 2 rfl ?_
    refine g_if_lt (tgt := 26) C D_He_hasField_9 (by decide) ?_ ?_
    · refine g_sub [] rfl ?_
      exact wj_He_hasField_26 C _
    · refine g_iload_n C D_He_hasField_12 rfl 2 rfl ?_
      refine g_aload_n C D_He_hasField_13 rfl 0 rfl ?_
      refine g_getr (ci := 2) C 1 rfl kI2 rfl (by decide) rfl rfl wf_2_15 D_He_hasField_14 ?_
      refine g_iload_n C D_He_hasField_17 rfl 1 rfl ?_
      refine g_iald C rfl rfl rfl D_He_hasField_18 ?_
      refine g_icmp_ge (tgt := 26) C D_He_hasField_19 (by decide) ?_ ?_
      · refine g_sub [] rfl ?_
        exact wj_He_hasField_26 C _
      · refine g_iconst C D_He_hasField_22 ⟨by decide, by decide⟩ ?_
        refine g_goto (tgt := 27) C D_He_hasField_23 (by decide) ?_
        refine g_sub [] rfl ?_
        exact wj_He_hasField_27 C _ _
theorem c_He_hasField {σ : gM} {v1 v2 : Int} {r : gR} (ho : F_He_hasField σ v1 v2 = some r) (hok : gOk [.inr (.inr 28), .inl v1, .inl v2]) (hin : gIn gctC σ) : gCt gctC Y_He_hasField prog_4_method_3_code 3 (some .boolean) 1 21 [.inr (.inr 28), .inl v1, .inl v2] σ r := g_entry (by decide) rfl (Nat.le_of_ble_eq_true rfl) ho hok hin (fun X C => w_He_hasField C σ v1 v2)
theorem D_He_freeNumber_0 : decode prog_4_method_4_code 0 = .ok (.iconst 0, 1) := by decide +kernel
theorem D_He_freeNumber_1 : decode prog_4_method_4_code 1 = .ok (.istore_n 1, 1) := by decide +kernel
theorem D_He_freeNumber_2 : decode prog_4_method_4_code 2 = .ok (.iload_n 1, 1) := by decide +kernel
theorem D_He_freeNumber_3 : decode prog_4_method_4_code 3 = .ok (.bipush 40, 2) := by decide +kernel
theorem D_He_freeNumber_5 : decode prog_4_method_4_code 5 = .ok (.if_icmp .ge 22, 3) := by decide +kernel
theorem D_He_freeNumber_8 : decode prog_4_method_4_code 8 = .ok (.aload_n 0, 1) := by decide +kernel
theorem D_He_freeNumber_9 : decode prog_4_method_4_code 9 = .ok (.getfield 9, 3) := by decide +kernel
theorem D_He_freeNumber_12 : decode prog_4_method_4_code 12 = .ok (.iload_n 1, 1) := by decide +kernel
theorem D_He_freeNumber_13 : decode prog_4_method_4_code 13 = .ok (.iaload, 1) := by decide +kernel
theorem D_He_freeNumber_14 : decode prog_4_method_4_code 14 = .ok (.bipush (-4), 2) := by decide +kernel
theorem D_He_freeNumber_16 : decode prog_4_method_4_code 16 = .ok (.if_icmp .ne 5, 3) := by decide +kernel
theorem D_He_freeNumber_19 : decode prog_4_method_4_code 19 = .ok (.iload_n 1, 1) := by decide +kernel
theorem D_He_freeNumber_20 : decode prog_4_method_4_code 20 = .ok (.ireturn, 1) := by decide +kernel
theorem D_He_freeNumber_21 : decode prog_4_method_4_code 21 = .ok (.iinc 1 1, 3) := by decide +kernel
theorem D_He_freeNumber_24 : decode prog_4_method_4_code 24 = .ok (.goto (-22), 3) := by decide +kernel
theorem D_He_freeNumber_27 : decode prog_4_method_4_code 27 = .ok (.bipush (-4), 2) := by decide +kernel
theorem D_He_freeNumber_29 : decode prog_4_method_4_code 29 = .ok (.ireturn, 1) := by decide +kernel
def l_He_freeNumber_2 (rec : gM → Int → gO) (σ : gM) (v1 : Int) : gO :=
  if v1 < 40 then
  (gi v1 40 <|
  if (σ 29 v1) = (-4) then
  (some (σ, v1))
  else
  (ga (v1 + 1) fun a1 =>
  rec σ a1))
  else
  (some (σ, (-4)))
set_option maxHeartbeats 4000000 in
theorem wl_He_freeNumber_2 {X : gX} (C : gC gctC prog_4_method_4_code kR2 2 0 0 (some .int) X) : ∀ (n : Nat) (σ : gM) (a0 : Int), GG gctC X 2 [(0, .inr (.inr 28)), (1, .inl a0)] [] σ (gl1 (l_He_freeNumber_2) n σ a0) := by
  refine gl1_run (P := fun σ a0 o => GG gctC X 2 [(0, .inr (.inr 28)), (1, .inl a0)] [] σ o) (fun _ _ => g_none) (fun rec hrec σ v1 => ?_)
  unfold l_He_freeNumber_2
  refine g_iload_n C D_He_freeNumber_2 rfl 1 rfl ?_
  refine g_bipush C D_He_freeNumber_3 (by decide) ⟨by decide, by decide⟩ ?_
  refine g_icmp_ge (tgt := 27) C D_He_freeNumber_5 (by decide) ?_ ?_
  · refine g_bipush C D_He_freeNumber_27 (by decide) ⟨by decide, by decide⟩ ?_
    exact g_iret C D_He_freeNumber_29
  · refine g_aload_n C D_He_freeNumber_8 rfl 0 rfl ?_
    refine g_getr (ci := 2) C 0 rfl kI2 rfl (by decide) rfl rfl wf_2_9 D_He_freeNumber_9 ?_
    refine g_iload_n C D_He_freeNumber_12 rfl 1 rfl ?_
    refine g_iald C rfl rfl rfl D_He_freeNumber_13 ?_
    refine g_bipush C D_He_freeNumber_14 (by decide) ⟨by decide, by decide⟩ ?_
    refine g_icmp_ne (tgt := 21) C D_He_freeNumber_16 (by decide) ?_ ?_
    · refine g_iinc (t := 1) (L' := fun z => [(1, .inl z), (0, .inr (.inr 28))]) C D_He_freeNumber_21 rfl (by decide) (fun _ => rfl) (fun a1 => ?_)
      refine g_goto (tgt := 2) C D_He_freeNumber_24 (by decide) ?_
      refine g_sub [1, 0] rfl ?_
      exact hrec _ _
    · refine g_iload_n C D_He_freeNumber_19 rfl 1 rfl ?_
      exact g_iret C D_He_freeNumber_20
def F_He_freeNumber (σ : gM) : gO :=
  gl1 (l_He_freeNumber_2) 200 σ 0
set_option maxHeartbeats 4000000 in
theorem w_He_freeNumber {X : gX} (C : gC gctC prog_4_method_4_code kR2 2 0 0 (some .int) X) (σ : gM) : GG gctC X 0 [(0, .inr (.inr 28))] [] σ (F_He_freeNumber σ) := by
  unfold F_He_freeNumber
  refine g_iconst C D_He_freeNumber_0 ⟨by decide, by decide⟩ ?_
  refine g_istore_n (L' := [(1, .inl 0), (0, .inr (.inr 28))]) C D_He_freeNumber_1 rfl (by decide) rfl ?_
  refine g_sub [1, 0] rfl ?_
  exact wl_He_freeNumber_2 C 200 _ _
theorem c_He_freeNumber {σ : gM} {r : gR} (ho : F_He_freeNumber σ = some r) (hok : gOk [.inr (.inr 28)]) (hin : gIn gctC σ) : gCt gctC Y_He_freeNumber prog_4_method_4_code 2 (some .int) 0 0 [.inr (.inr 28)] σ r := g_entry (by decide) rfl (Nat.le_of_ble_eq_true rfl) ho hok hin (fun X C => w_He_freeNumber C σ)
theorem D_He_place_0 : decode prog_4_method_5_code 0 = .ok (.aload_n 0, 1) := by decide +kernel
theorem D_He_place_1 : decode prog_4_method_5_code 1 = .ok (.getfield 9, 3) := by decide +kernel
theorem D_He_place_4 : decode prog_4_method_5_code 4 = .ok (.iload_n 1, 1) := by decide +kernel
theorem D_He_place_5 : decode prog_4_method_5_code 5 = .ok (.iload_n 2, 1) := by decide +kernel
theorem D_He_place_6 : decode prog_4_method_5_code 6 = .ok (.iastore, 1) := by decide +kernel
theorem D_He_place_7 : decode prog_4_method_5_code 7 = .ok (.aload_n 0, 1) := by decide +kernel
theorem D_He_place_8 : decode prog_4_method_5_code 8 = .ok (.getfield 15, 3) := by decide +kernel
theorem D_He_place_11 : decode prog_4_method_5_code 11 = .ok (.iload_n 1, 1) := by decide +kernel
theorem D_He_place_12 : decode prog_4_method_5_code 12 = .ok (.iload_n 3, 1) := by decide +kernel
theorem D_He_place_13 : decode prog_4_method_5_code 13 = .ok (.iastore, 1) := by decide +kernel
theorem D_He_place_14 : decode prog_4_method_5_code 14 = .ok (.aload_n 0, 1) := by decide +kernel
theorem D_He_place_15 : decode prog_4_method_5_code 15 = .ok (.getfield 18, 3) := by decide +kernel
theorem D_He_place_18 : decode prog_4_method_5_code 18 = .ok (.iload_n 1, 1) := by decide +kernel
theorem D_He_place_19 : decode prog_4_method_5_code 19 = .ok (.iconst 0, 1) := by decide +kernel
theorem D_He_place_20 : decode prog_4_method_5_code 20 = .ok (.iastore, 1) := by decide +kernel
theorem D_He_place_21 : decode prog_4_method_5_code 21 = .ok (.aload_n 0, 1) := by decide +kernel
theorem D_He_place_22 : decode prog_4_method_5_code 22 = .ok (.getfield 21, 3) := by decide +kernel
theorem D_He_place_25 : decode prog_4_method_5_code 25 = .ok (.iload_n 1, 1) := by decide +kernel
theorem D_He_place_26 : decode prog_4_method_5_code 26 = .ok (.iload 4, 2) := by decide +kernel
theorem D_He_place_28 : decode prog_4_method_5_code 28 = .ok (.bastore, 1) := by decide +kernel
theorem D_He_place_29 : decode prog_4_method_5_code 29 = .ok (.aload_n 0, 1) := by decide +kernel
theorem D_He_place_30 : decode prog_4_method_5_code 30 = .ok (.getfield 25, 3) := by decide +kernel
theorem D_He_place_33 : decode prog_4_method_5_code 33 = .ok (.iload_n 1, 1) := by decide +kernel
theorem D_He_place_34 : decode prog_4_method_5_code 34 = .ok (.iconst 0, 1) := by decide +kernel
theorem D_He_place_35 : decode prog_4_method_5_code 35 = .ok (.iastore, 1) := by decide +kernel
theorem D_He_place_36 : decode prog_4_method_5_code 36 = .ok (.aload_n 0, 1) := by decide +kernel
theorem D_He_place_37 : decode prog_4_method_5_code 37 = .ok (.getfield 40, 3) := by decide +kernel
theorem D_He_place_40 : decode prog_4_method_5_code 40 = .ok (.bipush 11, 2) := by decide +kernel
theorem D_He_place_42 : decode prog_4_method_5_code 42 = .ok (.iconst 1, 1) := by decide +kernel
theorem D_He_place_43 : decode prog_4_method_5_code 43 = .ok (.invokevirtual 59, 3) := by decide +kernel
theorem D_He_place_46 : decode prog_4_method_5_code 46 = .ok (.return_, 1) := by decide +kernel
def F_He_place (σ : gM) (v1 v2 v3 v4 : Int) : gO :=
  gw σ 29 40 v1 v2 fun s1 =>
  gw s1 30 40 v1 v3 fun s2 =>
  gw s2 31 40 v1 0 fun s3 =>
  gwb s3 32 40 v1 v4 fun s4 =>
  gw s4 33 40 v1 0 fun s5 =>
  gk (F_Le_add s5 11 1) fun s6 _ =>
  some (s6, 0)
set_option maxHeartbeats 4000000 in
theorem w_He_place {X : gX} (C : gC gctC prog_4_method_5_code kR2 5 1 22 (none) X) (σ : gM) (v1 v2 v3 v4 : Int) : GG gctC X 0 [(0, .inr (.inr 28)), (1, .inl v1), (2, .inl v2), (3, .inl v3), (4, .inl v4)] [] σ (F_He_place σ v1 v2 v3 v4) := by
  unfold F_He_place
  refine g_aload_n C D_He_place_0 rfl 0 rfl ?_
  refine g_getr (ci := 2) C 0 rfl kI2 rfl (by decide) rfl rfl wf_2_9 D_He_place_1 ?_
  refine g_iload_n C D_He_place_4 rfl 1 rfl ?_
  refine g_iload_n C D_He_place_5 rfl 2 rfl ?_
  refine g_iast C rfl rfl D_He_place_6 (fun s1 => ?_)
  refine g_aload_n C D_He_place_7 rfl 0 rfl ?_
  refine g_getr (ci := 2) C 1 rfl kI2 rfl (by decide) rfl rfl wf_2_15 D_He_place_8 ?_
  refine g_iload_n C D_He_place_11 rfl 1 rfl ?_
  refine g_iload_n C D_He_place_12 rfl 3 rfl ?_
  refine g_iast C rfl rfl D_He_place_13 (fun s2 => ?_)
  refine g_aload_n C D_He_place_14 rfl 0 rfl ?_
  refine g_getr (ci := 2) C 2 rfl kI2 rfl (by decide) rfl rfl wf_2_18 D_He_place_15 ?_
  refine g_iload_n C D_He_place_18 rfl 1 rfl ?_
  refine g_iconst C D_He_place_19 ⟨by decide, by decide⟩ ?_
  refine g_iast C rfl rfl D_He_place_20 (fun s3 => ?_)
  refine g_aload_n C D_He_place_21 rfl 0 rfl ?_
  refine g_getr (ci := 2) C 3 rfl kI2 rfl (by decide) rfl rfl wf_2_21 D_He_place_22 ?_
  refine g_iload_n C D_He_place_25 rfl 1 rfl ?_
  refine g_iload C D_He_place_26 4 rfl ?_
  refine g_zast C rfl rfl D_He_place_28 (fun s4 => ?_)
  refine g_aload_n C D_He_place_29 rfl 0 rfl ?_
  refine g_getr (ci := 2) C 4 rfl kI2 rfl (by decide) rfl rfl wf_2_25 D_He_place_30 ?_
  refine g_iload_n C D_He_place_33 rfl 1 rfl ?_
  refine g_iconst C D_He_place_34 ⟨by decide, by decide⟩ ?_
  refine g_iast C rfl rfl D_He_place_35 (fun s5 => ?_)
  refine g_aload_n C D_He_place_36 rfl 0 rfl ?_
  refine g_getr (ci := 2) C 10 rfl kI2 rfl (by decide) rfl rfl wf_2_40 D_He_place_37 ?_
  refine g_bipush C D_He_place_40 (by decide) ⟨by decide, by decide⟩ ?_
  refine g_iconst C D_He_place_42 ⟨by decide, by decide⟩ ?_
  refine g_callVv (ci := 3) C [.inl 11, .inl 1] [] rfl rfl (fun _ h1 h2 h3 => c_Le_add h1 h2 h3) rfl rfl wc_2_59 (by decide) (Nat.le_of_ble_eq_true rfl) D_He_place_43 (fun s6 _ => ?_)
  exact g_vret C D_He_place_46
theorem c_He_place {σ : gM} {v1 v2 v3 v4 : Int} {r : gR} (ho : F_He_place σ v1 v2 v3 v4 = some r) (hok : gOk [.inr (.inr 28), .inl v1, .inl v2, .inl v3, .inl v4]) (hin : gIn gctC σ) : gCt gctC Y_He_place prog_4_method_5_code 5 (none) 1 22 [.inr (.inr 28), .inl v1, .inl v2, .inl v3, .inl v4] σ r := g_entry (by decide) rfl (Nat.le_of_ble_eq_true rfl) ho hok hin (fun X C => w_He_place C σ v1 v2 v3 v4)
theorem D_He_rounded_0 : decode prog_4_method_6_code 0 = .ok (.iload_n 0, 1) := by decide +kernel
theorem D_He_rounded_1 : decode prog_4_method_6_code 1 = .ok (.bipush 7, 2) := by decide +kernel
theorem D_He_rounded_3 : decode prog_4_method_6_code 3 = .ok (.iadd, 1) := by decide +kernel
theorem D_He_rounded_4 : decode prog_4_method_6_code 4 = .ok (.bipush 8, 2) := by decide +kernel
theorem D_He_rounded_6 : decode prog_4_method_6_code 6 = .ok (.idiv, 1) := by decide +kernel
theorem D_He_rounded_7 : decode prog_4_method_6_code 7 = .ok (.bipush 8, 2) := by decide +kernel
theorem D_He_rounded_9 : decode prog_4_method_6_code 9 = .ok (.imul, 1) := by decide +kernel
theorem D_He_rounded_10 : decode prog_4_method_6_code 10 = .ok (.ireturn, 1) := by decide +kernel
def F_He_rounded (σ : gM) (v0 : Int) : gO :=
  ga (v0 + 7) fun a1 =>
  gd a1 8 <|
  ga ((a1 / 8) * 8) fun a2 =>
  some (σ, a2)
set_option maxHeartbeats 4000000 in
theorem w_He_rounded {X : gX} (C : gC gctC prog_4_method_6_code kR2 1 0 0 (some .int) X) (σ : gM) (v0 : Int) : GG gctC X 0 [(0, .inl v0)] [] σ (F_He_rounded σ v0) := by
  unfold F_He_rounded
  refine g_iload_n C D_He_rounded_0 rfl 0 rfl ?_
  refine g_bipush C D_He_rounded_1 (by decide) ⟨by decide, by decide⟩ ?_
  refine g_iadd C D_He_rounded_3 (fun a1 => ?_)
  refine g_bipush C D_He_rounded_4 (by decide) ⟨by decide, by decide⟩ ?_
  refine g_idiv C D_He_rounded_6 ?_
  refine g_bipush C D_He_rounded_7 (by decide) ⟨by decide, by decide⟩ ?_
  refine g_imul C D_He_rounded_9 (fun a2 => ?_)
  exact g_iret C D_He_rounded_10
theorem c_He_rounded {σ : gM} {v0 : Int} {r : gR} (ho : F_He_rounded σ v0 = some r) (hok : gOk [.inl v0]) (hin : gIn gctC σ) : gCt gctC Y_He_rounded prog_4_method_6_code 1 (some .int) 0 0 [.inl v0] σ r := g_entry (by decide) rfl (Nat.le_of_ble_eq_true rfl) ho hok hin (fun X C => w_He_rounded C σ v0)
theorem D_He_objectFrom_0 : decode prog_4_method_7_code 0 = .ok (.iconst (-1), 1) := by decide +kernel
theorem D_He_objectFrom_1 : decode prog_4_method_7_code 1 = .ok (.istore_n 2, 1) := by decide +kernel
theorem D_He_objectFrom_2 : decode prog_4_method_7_code 2 = .ok (.iconst 0, 1) := by decide +kernel
theorem D_He_objectFrom_3 : decode prog_4_method_7_code 3 = .ok (.istore_n 3, 1) := by decide +kernel
theorem D_He_objectFrom_4 : decode prog_4_method_7_code 4 = .ok (.iload_n 3, 1) := by decide +kernel
theorem D_He_objectFrom_5 : decode prog_4_method_7_code 5 = .ok (.bipush 40, 2) := by decide +kernel
theorem D_He_objectFrom_7 : decode prog_4_method_7_code 7 = .ok (.if_icmp .ge 55, 3) := by decide +kernel
theorem D_He_objectFrom_10 : decode prog_4_method_7_code 10 = .ok (.aload_n 0, 1) := by decide +kernel
theorem D_He_objectFrom_11 : decode prog_4_method_7_code 11 = .ok (.getfield 9, 3) := by decide +kernel
theorem D_He_objectFrom_14 : decode prog_4_method_7_code 14 = .ok (.iload_n 3, 1) := by decide +kernel
theorem D_He_objectFrom_15 : decode prog_4_method_7_code 15 = .ok (.iaload, 1) := by decide +kernel
theorem D_He_objectFrom_16 : decode prog_4_method_7_code 16 = .ok (.bipush (-4), 2) := by decide +kernel
theorem D_He_objectFrom_18 : decode prog_4_method_7_code 18 = .ok (.if_icmp .eq 38, 3) := by decide +kernel
theorem D_He_objectFrom_21 : decode prog_4_method_7_code 21 = .ok (.aload_n 0, 1) := by decide +kernel
theorem D_He_objectFrom_22 : decode prog_4_method_7_code 22 = .ok (.getfield 9, 3) := by decide +kernel
theorem D_He_objectFrom_25 : decode prog_4_method_7_code 25 = .ok (.iload_n 3, 1) := by decide +kernel
theorem D_He_objectFrom_26 : decode prog_4_method_7_code 26 = .ok (.iaload, 1) := by decide +kernel
theorem D_He_objectFrom_27 : decode prog_4_method_7_code 27 = .ok (.iload_n 1, 1) := by decide +kernel
theorem D_He_objectFrom_28 : decode prog_4_method_7_code 28 = .ok (.if_icmp .ge 6, 3) := by decide +kernel
theorem D_He_objectFrom_31 : decode prog_4_method_7_code 31 = .ok (.goto 25, 3) := by decide +kernel
theorem D_He_objectFrom_34 : decode prog_4_method_7_code 34 = .ok (.iload_n 2, 1) := by decide +kernel
theorem D_He_objectFrom_35 : decode prog_4_method_7_code 35 = .ok (.iconst (-1), 1) := by decide +kernel
theorem D_He_objectFrom_36 : decode prog_4_method_7_code 36 = .ok (.if_icmp .eq 18, 3) := by decide +kernel
theorem D_He_objectFrom_39 : decode prog_4_method_7_code 39 = .ok (.aload_n 0, 1) := by decide +kernel
theorem D_He_objectFrom_40 : decode prog_4_method_7_code 40 = .ok (.getfield 9, 3) := by decide +kernel
theorem D_He_objectFrom_43 : decode prog_4_method_7_code 43 = .ok (.iload_n 3, 1) := by decide +kernel
theorem D_He_objectFrom_44 : decode prog_4_method_7_code 44 = .ok (.iaload, 1) := by decide +kernel
theorem D_He_objectFrom_45 : decode prog_4_method_7_code 45 = .ok (.aload_n 0, 1) := by decide +kernel
theorem D_He_objectFrom_46 : decode prog_4_method_7_code 46 = .ok (.getfield 9, 3) := by decide +kernel
theorem D_He_objectFrom_49 : decode prog_4_method_7_code 49 = .ok (.iload_n 2, 1) := by decide +kernel
theorem D_He_objectFrom_50 : decode prog_4_method_7_code 50 = .ok (.iaload, 1) := by decide +kernel
theorem D_He_objectFrom_51 : decode prog_4_method_7_code 51 = .ok (.if_icmp .ge 5, 3) := by decide +kernel
theorem D_He_objectFrom_54 : decode prog_4_method_7_code 54 = .ok (.iload_n 3, 1) := by decide +kernel
theorem D_He_objectFrom_55 : decode prog_4_method_7_code 55 = .ok (.istore_n 2, 1) := by decide +kernel
theorem D_He_objectFrom_56 : decode prog_4_method_7_code 56 = .ok (.iinc 3 1, 3) := by decide +kernel
theorem D_He_objectFrom_59 : decode prog_4_method_7_code 59 = .ok (.goto (-55), 3) := by decide +kernel
theorem D_He_objectFrom_62 : decode prog_4_method_7_code 62 = .ok (.iload_n 2, 1) := by decide +kernel
theorem D_He_objectFrom_63 : decode prog_4_method_7_code 63 = .ok (.ireturn, 1) := by decide +kernel
def j_He_objectFrom_56 (rec : gM → Int → Int → gO) (σ : gM) (p1 v2 v3 : Int) : gO :=
  ga (v3 + 1) fun a1 =>
  rec σ v2 a1
set_option maxHeartbeats 4000000 in
theorem wj_He_objectFrom_56 {X : gX} (C : gC gctC prog_4_method_7_code kR2 4 0 0 (some .int) X) {p1 : Int} {rec : gM → Int → Int → gO} (hrec : ∀ (σ : gM) (a0 a1 : Int), GG gctC X 4 [(0, .inr (.inr 28)), (1, .inl p1), (2, .inl a0), (3, .inl a1)] [] σ (rec σ a0 a1)) (σ : gM) (v2 v3 : Int) : GG gctC X 56 [(0, .inr (.inr 28)), (1, .inl p1), (2, .inl v2), (3, .inl v3)] [] σ (j_He_objectFrom_56 rec σ p1 v2 v3) := by
  unfold j_He_objectFrom_56
  refine g_iinc (t := 3) (L' := fun z => [(3, .inl z), (0, .inr (.inr 28)), (1, .inl p1), (2, .inl v2)]) C D_He_objectFrom_56 rfl (by decide) (fun _ => rfl) (fun a1 => ?_)
  refine g_goto (tgt := 4) C D_He_objectFrom_59 (by decide) ?_
  refine g_sub [1, 2, 3, 0] rfl ?_
  exact hrec _ _ _
def j_He_objectFrom_54 (rec : gM → Int → Int → gO) (σ : gM) (p1 v3 : Int) : gO :=
  j_He_objectFrom_56 rec σ p1 v3 v3
set_option maxHeartbeats 4000000 in
theorem wj_He_objectFrom_54 {X : gX} (C : gC gctC prog_4_method_7_code kR2 4 0 0 (some .int) X) {p1 : Int} {rec : gM → Int → Int → gO} (hrec : ∀ (σ : gM) (a0 a1 : Int), GG gctC X 4 [(0, .inr (.inr 28)), (1, .inl p1), (2, .inl a0), (3, .inl a1)] [] σ (rec σ a0 a1)) (σ : gM) (v3 : Int) : GG gctC X 54 [(0, .inr (.inr 28)), (1, .inl p1), (3, .inl v3)] [] σ (j_He_objectFrom_54 rec σ p1 v3) := by
  unfold j_He_objectFrom_54
  refine g_iload_n C D_He_objectFrom_54 rfl 2 rfl ?_
  refine g_istore_n (L' := [(2, .inl v3), (0, .inr (.inr 28)), (1, .inl p1), (3, .inl v3)]) C D_He_objectFrom_55 rfl (by decide) rfl ?_
  refine g_sub [1, 2, 0, 3] rfl ?_
  exact wj_He_objectFrom_56 C hrec _ _ _
def l_He_objectFrom_4 (p1 : Int) (rec : gM → Int → Int → gO) (σ : gM) (v2 v3 : Int) : gO :=
  if v3 < 40 then
  (gi v3 40 <|
  if (σ 29 v3) = (-4) then
  (j_He_objectFrom_56 rec σ p1 v2 v3)
  else
  (gi v3 40 <|
  if (σ 29 v3) < p1 then
  (j_He_objectFrom_56 rec σ p1 v2 v3)
  else
  (if v2 = (-1) then
  (j_He_objectFrom_54 rec σ p1 v3)
  else
  (gi v3 40 <|
  gi v2 40 <|
  if (σ 29 v3) < (σ 29 v2) then
  (j_He_objectFrom_54 rec σ p1 v3)
  else
  (j_He_objectFrom_56 rec σ p1 v2 v3)))))
  else
  (some (σ, v2))
set_option maxHeartbeats 4000000 in
theorem wl_He_objectFrom_4 {X : gX} (C : gC gctC prog_4_method_7_code kR2 4 0 0 (some .int) X) {p1 : Int} : ∀ (n : Nat) (σ : gM) (a0 a1 : Int), GG gctC X 4 [(0, .inr (.inr 28)), (1, .inl p1), (2, .inl a0), (3, .inl a1)] [] σ (gl2 (l_He_objectFrom_4 p1) n σ a0 a1) := by
  refine gl2_run (P := fun σ a0 a1 o => GG gctC X 4 [(0, .inr (.inr 28)), (1, .inl p1), (2, .inl a0), (3, .inl a1)] [] σ o) (fun _ _ _ => g_none) (fun rec hrec σ v2 v3 => ?_)
  unfold l_He_objectFrom_4
  refine g_iload_n C D_He_objectFrom_4 rfl 3 rfl ?_
  refine g_bipush C D_He_objectFrom_5 (by decide) ⟨by decide, by decide⟩ ?_
  refine g_icmp_ge (tgt := 62) C D_He_objectFrom_7 (by decide) ?_ ?_
  · refine g_iload_n C D_He_objectFrom_62 rfl 2 rfl ?_
    exact g_iret C D_He_objectFrom_63
  · refine g_aload_n C D_He_objectFrom_10 rfl 0 rfl ?_
    refine g_getr (ci := 2) C 0 rfl kI2 rfl (by decide) rfl rfl wf_2_9 D_He_objectFrom_11 ?_
    refine g_iload_n C D_He_objectFrom_14 rfl 3 rfl ?_
    refine g_iald C rfl rfl rfl D_He_objectFrom_15 ?_
    refine g_bipush C D_He_objectFrom_16 (by decide) ⟨by decide, by decide⟩ ?_
    refine g_icmp_eq (tgt := 56) C D_He_objectFrom_18 (by decide) ?_ ?_
    · exact wj_He_objectFrom_56 C hrec _ _ _
    · refine g_aload_n C D_He_objectFrom_21 rfl 0 rfl ?_
      refine g_getr (ci := 2) C 0 rfl kI2 rfl (by decide) rfl rfl wf_2_9 D_He_objectFrom_22 ?_
      refine g_iload_n C D_He_objectFrom_25 rfl 3 rfl ?_
      refine g_iald C rfl rfl rfl D_He_objectFrom_26 ?_
      refine g_iload_n C D_He_objectFrom_27 rfl 1 rfl ?_
      refine g_icmp_ge (tgt := 34) C D_He_objectFrom_28 (by decide) ?_ ?_
      · refine g_iload_n C D_He_objectFrom_34 rfl 2 rfl ?_
        refine g_iconst C D_He_objectFrom_35 ⟨by decide, by decide⟩ ?_
        refine g_icmp_eq (tgt := 54) C D_He_objectFrom_36 (by decide) ?_ ?_
        · refine g_sub [0, 1, 3] rfl ?_
          exact wj_He_objectFrom_54 C hrec _ _
        · refine g_aload_n C D_He_objectFrom_39 rfl 0 rfl ?_
          refine g_getr (ci := 2) C 0 rfl kI2 rfl (by decide) rfl rfl wf_2_9 D_He_objectFrom_40 ?_
          refine g_iload_n C D_He_objectFrom_43 rfl 3 rfl ?_
          refine g_iald C rfl rfl rfl D_He_objectFrom_44 ?_
          refine g_aload_n C D_He_objectFrom_45 rfl 0 rfl ?_
          refine g_getr (ci := 2) C 0 rfl kI2 rfl (by decide) rfl rfl wf_2_9 D_He_objectFrom_46 ?_
          refine g_iload_n C D_He_objectFrom_49 rfl 2 rfl ?_
          refine g_iald C rfl rfl rfl D_He_objectFrom_50 ?_
          refine g_icmp_ge (tgt := 56) C D_He_objectFrom_51 (by decide) ?_ ?_
          · exact wj_He_objectFrom_56 C hrec _ _ _
          · refine g_sub [0, 1, 3] rfl ?_
            exact wj_He_objectFrom_54 C hrec _ _
      · refine g_goto (tgt := 56) C D_He_objectFrom_31 (by decide) ?_
        exact wj_He_objectFrom_56 C hrec _ _ _
def F_He_objectFrom (σ : gM) (v1 : Int) : gO :=
  gl2 (l_He_objectFrom_4 v1) 200 σ (-1) 0
set_option maxHeartbeats 4000000 in
theorem w_He_objectFrom {X : gX} (C : gC gctC prog_4_method_7_code kR2 4 0 0 (some .int) X) (σ : gM) (v1 : Int) : GG gctC X 0 [(0, .inr (.inr 28)), (1, .inl v1)] [] σ (F_He_objectFrom σ v1) := by
  unfold F_He_objectFrom
  refine g_iconst C D_He_objectFrom_0 ⟨by decide, by decide⟩ ?_
  refine g_istore_n (L' := [(2, .inl (-1)), (0, .inr (.inr 28)), (1, .inl v1)]) C D_He_objectFrom_1 rfl (by decide) rfl ?_
  refine g_iconst C D_He_objectFrom_2 ⟨by decide, by decide⟩ ?_
  refine g_istore_n (L' := [(3, .inl 0), (2, .inl (-1)), (0, .inr (.inr 28)), (1, .inl v1)]) C D_He_objectFrom_3 rfl (by decide) rfl ?_
  refine g_sub [2, 3, 1, 0] rfl ?_
  exact wl_He_objectFrom_4 C 200 _ _ _
theorem c_He_objectFrom {σ : gM} {v1 : Int} {r : gR} (ho : F_He_objectFrom σ v1 = some r) (hok : gOk [.inr (.inr 28), .inl v1]) (hin : gIn gctC σ) : gCt gctC Y_He_objectFrom prog_4_method_7_code 4 (some .int) 0 0 [.inr (.inr 28), .inl v1] σ r := g_entry (by decide) rfl (Nat.le_of_ble_eq_true rfl) ho hok hin (fun X C => w_He_objectFrom C σ v1)
theorem D_He_freeStart_0 : decode prog_4_method_8_code 0 = .ok (.iload_n 1, 1) := by decide +kernel
theorem D_He_freeStart_1 : decode prog_4_method_8_code 1 = .ok (.istore_n 2, 1) := by decide +kernel
theorem D_He_freeStart_2 : decode prog_4_method_8_code 2 = .ok (.iconst 0, 1) := by decide +kernel
theorem D_He_freeStart_3 : decode prog_4_method_8_code 3 = .ok (.istore_n 3, 1) := by decide +kernel
theorem D_He_freeStart_4 : decode prog_4_method_8_code 4 = .ok (.iload_n 3, 1) := by decide +kernel
theorem D_He_freeStart_5 : decode prog_4_method_8_code 5 = .ok (.bipush 40, 2) := by decide +kernel
theorem D_He_freeStart_7 : decode prog_4_method_8_code 7 = .ok (.if_icmp .ge 49, 3) := by decide +kernel
theorem D_He_freeStart_10 : decode prog_4_method_8_code 10 = .ok (.aload_n 0, 1) := by decide +kernel
theorem D_He_freeStart_11 : decode prog_4_method_8_code 11 = .ok (.iload_n 2, 1) := by decide +kernel
theorem D_He_freeStart_12 : decode prog_4_method_8_code 12 = .ok (.invokevirtual 65, 3) := by decide +kernel
theorem D_He_freeStart_15 : decode prog_4_method_8_code 15 = .ok (.istore 4, 2) := by decide +kernel
theorem D_He_freeStart_17 : decode prog_4_method_8_code 17 = .ok (.iload 4, 2) := by decide +kernel
theorem D_He_freeStart_19 : decode prog_4_method_8_code 19 = .ok (.iconst (-1), 1) := by decide +kernel
theorem D_He_freeStart_20 : decode prog_4_method_8_code 20 = .ok (.if_icmp .eq 36, 3) := by decide +kernel
theorem D_He_freeStart_23 : decode prog_4_method_8_code 23 = .ok (.aload_n 0, 1) := by decide +kernel
theorem D_He_freeStart_24 : decode prog_4_method_8_code 24 = .ok (.getfield 9, 3) := by decide +kernel
theorem D_He_freeStart_27 : decode prog_4_method_8_code 27 = .ok (.iload 4, 2) := by decide +kernel
theorem D_He_freeStart_29 : decode prog_4_method_8_code 29 = .ok (.iaload, 1) := by decide +kernel
theorem D_He_freeStart_30 : decode prog_4_method_8_code 30 = .ok (.iload_n 2, 1) := by decide +kernel
theorem D_He_freeStart_31 : decode prog_4_method_8_code 31 = .ok (.if_icmp .le 6, 3) := by decide +kernel
theorem D_He_freeStart_34 : decode prog_4_method_8_code 34 = .ok (.goto 22, 3) := by decide +kernel
theorem D_He_freeStart_37 : decode prog_4_method_8_code 37 = .ok (.iload_n 2, 1) := by decide +kernel
theorem D_He_freeStart_38 : decode prog_4_method_8_code 38 = .ok (.aload_n 0, 1) := by decide +kernel
theorem D_He_freeStart_39 : decode prog_4_method_8_code 39 = .ok (.getfield 15, 3) := by decide +kernel
theorem D_He_freeStart_42 : decode prog_4_method_8_code 42 = .ok (.iload 4, 2) := by decide +kernel
theorem D_He_freeStart_44 : decode prog_4_method_8_code 44 = .ok (.iaload, 1) := by decide +kernel
theorem D_He_freeStart_45 : decode prog_4_method_8_code 45 = .ok (.invokestatic 69, 3) := by decide +kernel
theorem D_He_freeStart_48 : decode prog_4_method_8_code 48 = .ok (.iadd, 1) := by decide +kernel
theorem D_He_freeStart_49 : decode prog_4_method_8_code 49 = .ok (.istore_n 2, 1) := by decide +kernel
theorem D_He_freeStart_50 : decode prog_4_method_8_code 50 = .ok (.iinc 3 1, 3) := by decide +kernel
theorem D_He_freeStart_53 : decode prog_4_method_8_code 53 = .ok (.goto (-49), 3) := by decide +kernel
theorem D_He_freeStart_56 : decode prog_4_method_8_code 56 = .ok (.iload_n 2, 1) := by decide +kernel
theorem D_He_freeStart_57 : decode prog_4_method_8_code 57 = .ok (.ireturn, 1) := by decide +kernel
def l_He_freeStart_4 (k1 : gM → Int → gO) (k2 : gM → Int → gO) (rec : gM → Int → Int → gO) (σ : gM) (v2 v3 : Int) : gO :=
  if v3 < 40 then
  (gk (F_He_objectFrom σ v2) fun s1 a2 =>
  if a2 = (-1) then
  (k2 s1 v2)
  else
  (gi a2 40 <|
  if v2 < (s1 29 a2) then
  (k1 s1 v2)
  else
  (gi a2 40 <|
  gk (F_He_rounded s1 (s1 30 a2)) fun s3 a4 =>
  ga (v2 + a4) fun a5 =>
  ga (v3 + 1) fun a6 =>
  rec s3 a5 a6)))
  else
  (k2 σ v2)
set_option maxHeartbeats 4000000 in
theorem wl_He_freeStart_4 {X : gX} (C : gC gctC prog_4_method_8_code kR2 5 1 23 (some .int) X) {k1 : gM → Int → gO} (hk1 : ∀ (σ : gM) (a0 : Int), GG gctC X 34 [(2, .inl a0)] [] σ (k1 σ a0)) {k2 : gM → Int → gO} (hk2 : ∀ (σ : gM) (a0 : Int), GG gctC X 56 [(2, .inl a0)] [] σ (k2 σ a0)) : ∀ (n : Nat) (σ : gM) (a0 a1 : Int), GG gctC X 4 [(0, .inr (.inr 28)), (2, .inl a0), (3, .inl a1)] [] σ (gl2 (l_He_freeStart_4 k1 k2) n σ a0 a1) := by
  refine gl2_run (P := fun σ a0 a1 o => GG gctC X 4 [(0, .inr (.inr 28)), (2, .inl a0), (3, .inl a1)] [] σ o) (fun _ _ _ => g_none) (fun rec hrec σ v2 v3 => ?_)
  unfold l_He_freeStart_4
  refine g_iload_n C D_He_freeStart_4 rfl 2 rfl ?_
  refine g_bipush C D_He_freeStart_5 (by decide) ⟨by decide, by decide⟩ ?_
  refine g_icmp_ge (tgt := 56) C D_He_freeStart_7 (by decide) ?_ ?_
  · refine g_sub [1] rfl ?_
    exact hk2 _ _
  · refine g_aload_n C D_He_freeStart_10 rfl 0 rfl ?_
    refine g_iload_n C D_He_freeStart_11 rfl 1 rfl ?_
    refine g_callVi (ci := 2) C [.inl v2] [] (Or.inl rfl) rfl (fun _ h1 h2 h3 => c_He_objectFrom h1 h2 h3) rfl rfl wc_2_65 (by decide) (Nat.le_of_ble_eq_true rfl) D_He_freeStart_12 (fun s1 a2 => ?_)
    refine g_istore (L' := [(4, .inl a2), (0, .inr (.inr 28)), (2, .inl v2), (3, .inl v3)]) C D_He_freeStart_15 (by decide) rfl ?_
    refine g_iload C D_He_freeStart_17 0 rfl ?_
    refine g_iconst C D_He_freeStart_19 ⟨by decide, by decide⟩ ?_
    refine g_icmp_eq (tgt := 56) C D_He_freeStart_20 (by decide) ?_ ?_
    · refine g_sub [2] rfl ?_
      exact hk2 _ _
    · refine g_aload_n C D_He_freeStart_23 rfl 1 rfl ?_
      refine g_getr (ci := 2) C 0 rfl kI2 rfl (by decide) rfl rfl wf_2_9 D_He_freeStart_24 ?_
      refine g_iload C D_He_freeStart_27 0 rfl ?_
      refine g_iald C rfl rfl rfl D_He_freeStart_29 ?_
      refine g_iload_n C D_He_freeStart_30 rfl 2 rfl ?_
      refine g_icmp_le (tgt := 37) C D_He_freeStart_31 (by decide) ?_ ?_
      · refine g_iload_n C D_He_freeStart_37 rfl 2 rfl ?_
        refine g_aload_n C D_He_freeStart_38 rfl 1 rfl ?_
        refine g_getr (ci := 2) C 1 rfl kI2 rfl (by decide) rfl rfl wf_2_15 D_He_freeStart_39 ?_
        refine g_iload C D_He_freeStart_42 0 rfl ?_
        refine g_iald C rfl rfl rfl D_He_freeStart_44 ?_
        refine g_callSi C [.inl (s1 30 a2)] [.inl v2] (Or.inl rfl) rfl (fun _ h1 h2 h3 => c_He_rounded h1 h2 h3) wc_2_69 (by decide) (Nat.le_of_ble_eq_true rfl) D_He_freeStart_45 (fun s3 a4 => ?_)
        refine g_iadd C D_He_freeStart_48 (fun a5 => ?_)
        refine g_istore_n (L' := [(2, .inl a5), (4, .inl a2), (0, .inr (.inr 28)), (3, .inl v3)]) C D_He_freeStart_49 rfl (by decide) rfl ?_
        refine g_iinc (t := 3) (L' := fun z => [(3, .inl z), (2, .inl a5), (4, .inl a2), (0, .inr (.inr 28))]) C D_He_freeStart_50 rfl (by decide) (fun _ => rfl) (fun a6 => ?_)
        refine g_goto (tgt := 4) C D_He_freeStart_53 (by decide) ?_
        refine g_sub [3, 1, 0] rfl ?_
        exact hrec _ _ _
      · refine g_sub [2] rfl ?_
        exact hk1 _ _
def j_He_freeStart_56 (σ : gM) (v2 : Int) : gO :=
  some (σ, v2)
set_option maxHeartbeats 4000000 in
theorem wj_He_freeStart_56 {X : gX} (C : gC gctC prog_4_method_8_code kR2 5 1 23 (some .int) X) (σ : gM) (v2 : Int) : GG gctC X 56 [(2, .inl v2)] [] σ (j_He_freeStart_56 σ v2) := by
  unfold j_He_freeStart_56
  refine g_iload_n C D_He_freeStart_56 rfl 0 rfl ?_
  exact g_iret C D_He_freeStart_57
def F_He_freeStart (σ : gM) (v1 : Int) : gO :=
  gl2 (l_He_freeStart_4 (fun s2 b1 => j_He_freeStart_56 s2 b1) (fun s4 b3 => j_He_freeStart_56 s4 b3)) 200 σ v1 0
set_option maxHeartbeats 4000000 in
theorem w_He_freeStart {X : gX} (C : gC gctC prog_4_method_8_code kR2 5 1 23 (some .int) X) (σ : gM) (v1 : Int) : GG gctC X 0 [(0, .inr (.inr 28)), (1, .inl v1)] [] σ (F_He_freeStart σ v1) := by
  unfold F_He_freeStart
  refine g_iload_n C D_He_freeStart_0 rfl 1 rfl ?_
  refine g_istore_n (L' := [(2, .inl v1), (0, .inr (.inr 28)), (1, .inl v1)]) C D_He_freeStart_1 rfl (by decide) rfl ?_
  refine g_iconst C D_He_freeStart_2 ⟨by decide, by decide⟩ ?_
  refine g_istore_n (L' := [(3, .inl 0), (2, .inl v1), (0, .inr (.inr 28)), (1, .inl v1)]) C D_He_freeStart_3 rfl (by decide) rfl ?_
  refine g_sub [2, 1, 0] rfl ?_
  exact wl_He_freeStart_4 C (fun s2 b1 => by
      refine g_goto (tgt := 56) C D_He_freeStart_34 (by decide) ?_
      exact wj_He_freeStart_56 C _ _) (fun s4 b3 => by
      exact wj_He_freeStart_56 C _ _) 200 _ _ _
theorem c_He_freeStart {σ : gM} {v1 : Int} {r : gR} (ho : F_He_freeStart σ v1 = some r) (hok : gOk [.inr (.inr 28), .inl v1]) (hin : gIn gctC σ) : gCt gctC Y_He_freeStart prog_4_method_8_code 5 (some .int) 1 23 [.inr (.inr 28), .inl v1] σ r := g_entry (by decide) rfl (Nat.le_of_ble_eq_true rfl) ho hok hin (fun X C => w_He_freeStart C σ v1)
theorem D_He_freeEnd_0 : decode prog_4_method_9_code 0 = .ok (.aload_n 0, 1) := by decide +kernel
theorem D_He_freeEnd_1 : decode prog_4_method_9_code 1 = .ok (.iload_n 1, 1) := by decide +kernel
theorem D_He_freeEnd_2 : decode prog_4_method_9_code 2 = .ok (.invokevirtual 65, 3) := by decide +kernel
theorem D_He_freeEnd_5 : decode prog_4_method_9_code 5 = .ok (.istore_n 2, 1) := by decide +kernel
theorem D_He_freeEnd_6 : decode prog_4_method_9_code 6 = .ok (.iload_n 2, 1) := by decide +kernel
theorem D_He_freeEnd_7 : decode prog_4_method_9_code 7 = .ok (.iconst (-1), 1) := by decide +kernel
theorem D_He_freeEnd_8 : decode prog_4_method_9_code 8 = .ok (.if_icmp .ne 9, 3) := by decide +kernel
theorem D_He_freeEnd_11 : decode prog_4_method_9_code 11 = .ok (.sipush 1024, 3) := by decide +kernel
theorem D_He_freeEnd_14 : decode prog_4_method_9_code 14 = .ok (.goto 9, 3) := by decide +kernel
theorem D_He_freeEnd_17 : decode prog_4_method_9_code 17 = .ok (.aload_n 0, 1) := by decide +kernel
theorem D_He_freeEnd_18 : decode prog_4_method_9_code 18 = .ok (.getfield 9, 3) := by decide +kernel
theorem D_He_freeEnd_21 : decode prog_4_method_9_code 21 = .ok (.iload_n 2, 1) := by decide +kernel
theorem D_He_freeEnd_22 : decode prog_4_method_9_code 22 = .ok (.iaload, 1) := by decide +kernel
theorem D_He_freeEnd_23 : decode prog_4_method_9_code 23 = .ok (.ireturn, 1) := by decide +kernel
def j_He_freeEnd_23 (σ : gM) (t0 : Int) : gO :=
  some (σ, t0)
set_option maxHeartbeats 4000000 in
theorem wj_He_freeEnd_23 {X : gX} (C : gC gctC prog_4_method_9_code kR2 3 1 23 (some .int) X) (σ : gM) (t0 : Int) : GG gctC X 23 [] [.inl t0] σ (j_He_freeEnd_23 σ t0) := by
  unfold j_He_freeEnd_23
  exact g_iret C D_He_freeEnd_23
def F_He_freeEnd (σ : gM) (v1 : Int) : gO :=
  gk (F_He_objectFrom σ v1) fun s1 a2 =>
  if a2 = (-1) then
  (j_He_freeEnd_23 s1 1024)
  else
  (gi a2 40 <|
  j_He_freeEnd_23 s1 (s1 29 a2))
set_option maxHeartbeats 4000000 in
theorem w_He_freeEnd {X : gX} (C : gC gctC prog_4_method_9_code kR2 3 1 23 (some .int) X) (σ : gM) (v1 : Int) : GG gctC X 0 [(0, .inr (.inr 28)), (1, .inl v1)] [] σ (F_He_freeEnd σ v1) := by
  unfold F_He_freeEnd
  refine g_aload_n C D_He_freeEnd_0 rfl 0 rfl ?_
  refine g_iload_n C D_He_freeEnd_1 rfl 1 rfl ?_
  refine g_callVi (ci := 2) C [.inl v1] [] (Or.inl rfl) rfl (fun _ h1 h2 h3 => c_He_objectFrom h1 h2 h3) rfl rfl wc_2_65 (by decide) (Nat.le_of_ble_eq_true rfl) D_He_freeEnd_2 (fun s1 a2 => ?_)
  refine g_istore_n (L' := [(2, .inl a2), (0, .inr (.inr 28)), (1, .inl v1)]) C D_He_freeEnd_5 rfl (by decide) rfl ?_
  refine g_iload_n C D_He_freeEnd_6 rfl 0 rfl ?_
  refine g_iconst C D_He_freeEnd_7 ⟨by decide, by decide⟩ ?_
  refine g_icmp_ne (tgt := 17) C D_He_freeEnd_8 (by decide) ?_ ?_
  · refine g_aload_n C D_He_freeEnd_17 rfl 1 rfl ?_
    refine g_getr (ci := 2) C 0 rfl kI2 rfl (by decide) rfl rfl wf_2_9 D_He_freeEnd_18 ?_
    refine g_iload_n C D_He_freeEnd_21 rfl 0 rfl ?_
    refine g_iald C rfl rfl rfl D_He_freeEnd_22 ?_
    refine g_sub [] rfl ?_
    exact wj_He_freeEnd_23 C _ _
  · refine g_sipush C D_He_freeEnd_11 (by decide) ⟨by decide, by decide⟩ ?_
    refine g_goto (tgt := 23) C D_He_freeEnd_14 (by decide) ?_
    refine g_sub [] rfl ?_
    exact wj_He_freeEnd_23 C _ _
theorem c_He_freeEnd {σ : gM} {v1 : Int} {r : gR} (ho : F_He_freeEnd σ v1 = some r) (hok : gOk [.inr (.inr 28), .inl v1]) (hin : gIn gctC σ) : gCt gctC Y_He_freeEnd prog_4_method_9_code 3 (some .int) 1 23 [.inr (.inr 28), .inl v1] σ r := g_entry (by decide) rfl (Nat.le_of_ble_eq_true rfl) ho hok hin (fun X C => w_He_freeEnd C σ v1)
theorem D_He_freeRoom_0 : decode prog_4_method_10_code 0 = .ok (.aload_n 0, 1) := by decide +kernel
theorem D_He_freeRoom_1 : decode prog_4_method_10_code 1 = .ok (.iconst 0, 1) := by decide +kernel
theorem D_He_freeRoom_2 : decode prog_4_method_10_code 2 = .ok (.invokevirtual 72, 3) := by decide +kernel
theorem D_He_freeRoom_5 : decode prog_4_method_10_code 5 = .ok (.istore_n 2, 1) := by decide +kernel
theorem D_He_freeRoom_6 : decode prog_4_method_10_code 6 = .ok (.iconst 0, 1) := by decide +kernel
theorem D_He_freeRoom_7 : decode prog_4_method_10_code 7 = .ok (.istore_n 3, 1) := by decide +kernel
theorem D_He_freeRoom_8 : decode prog_4_method_10_code 8 = .ok (.iload_n 3, 1) := by decide +kernel
theorem D_He_freeRoom_9 : decode prog_4_method_10_code 9 = .ok (.iload_n 1, 1) := by decide +kernel
theorem D_He_freeRoom_10 : decode prog_4_method_10_code 10 = .ok (.if_icmp .ge 32, 3) := by decide +kernel
theorem D_He_freeRoom_13 : decode prog_4_method_10_code 13 = .ok (.iload_n 3, 1) := by decide +kernel
theorem D_He_freeRoom_14 : decode prog_4_method_10_code 14 = .ok (.bipush 40, 2) := by decide +kernel
theorem D_He_freeRoom_16 : decode prog_4_method_10_code 16 = .ok (.if_icmp .gt 26, 3) := by decide +kernel
theorem D_He_freeRoom_19 : decode prog_4_method_10_code 19 = .ok (.iload_n 2, 1) := by decide +kernel
theorem D_He_freeRoom_20 : decode prog_4_method_10_code 20 = .ok (.sipush 1024, 3) := by decide +kernel
theorem D_He_freeRoom_23 : decode prog_4_method_10_code 23 = .ok (.if_icmp .ge 19, 3) := by decide +kernel
theorem D_He_freeRoom_26 : decode prog_4_method_10_code 26 = .ok (.aload_n 0, 1) := by decide +kernel
theorem D_He_freeRoom_27 : decode prog_4_method_10_code 27 = .ok (.aload_n 0, 1) := by decide +kernel
theorem D_He_freeRoom_28 : decode prog_4_method_10_code 28 = .ok (.iload_n 2, 1) := by decide +kernel
theorem D_He_freeRoom_29 : decode prog_4_method_10_code 29 = .ok (.invokevirtual 75, 3) := by decide +kernel
theorem D_He_freeRoom_32 : decode prog_4_method_10_code 32 = .ok (.invokevirtual 72, 3) := by decide +kernel
theorem D_He_freeRoom_35 : decode prog_4_method_10_code 35 = .ok (.istore_n 2, 1) := by decide +kernel
theorem D_He_freeRoom_36 : decode prog_4_method_10_code 36 = .ok (.iinc 3 1, 3) := by decide +kernel
theorem D_He_freeRoom_39 : decode prog_4_method_10_code 39 = .ok (.goto (-31), 3) := by decide +kernel
theorem D_He_freeRoom_42 : decode prog_4_method_10_code 42 = .ok (.iload_n 2, 1) := by decide +kernel
theorem D_He_freeRoom_43 : decode prog_4_method_10_code 43 = .ok (.sipush 1024, 3) := by decide +kernel
theorem D_He_freeRoom_46 : decode prog_4_method_10_code 46 = .ok (.if_icmp .ge 7, 3) := by decide +kernel
theorem D_He_freeRoom_49 : decode prog_4_method_10_code 49 = .ok (.iload_n 2, 1) := by decide +kernel
theorem D_He_freeRoom_50 : decode prog_4_method_10_code 50 = .ok (.goto 5, 3) := by decide +kernel
theorem D_He_freeRoom_53 : decode prog_4_method_10_code 53 = .ok (.bipush (-4), 2) := by decide +kernel
theorem D_He_freeRoom_55 : decode prog_4_method_10_code 55 = .ok (.ireturn, 1) := by decide +kernel
def l_He_freeRoom_8 (k1 : gM → Int → gO) (p1 : Int) (rec : gM → Int → Int → gO) (σ : gM) (v2 v3 : Int) : gO :=
  if v3 < p1 then
  (if 40 < v3 then
  (k1 σ v2)
  else
  (if v2 < 1024 then
  (gk (F_He_freeEnd σ v2) fun s1 a2 =>
  gk (F_He_freeStart s1 a2) fun s3 a4 =>
  ga (v3 + 1) fun a5 =>
  rec s3 a4 a5)
  else
  (k1 σ v2)))
  else
  (k1 σ v2)
set_option maxHeartbeats 4000000 in
theorem wl_He_freeRoom_8 {X : gX} (C : gC gctC prog_4_method_10_code kR2 4 2 47 (some .int) X) {p1 : Int} {k1 : gM → Int → gO} (hk1 : ∀ (σ : gM) (a0 : Int), GG gctC X 42 [(2, .inl a0)] [] σ (k1 σ a0)) : ∀ (n : Nat) (σ : gM) (a0 a1 : Int), GG gctC X 8 [(0, .inr (.inr 28)), (1, .inl p1), (2, .inl a0), (3, .inl a1)] [] σ (gl2 (l_He_freeRoom_8 k1 p1) n σ a0 a1) := by
  refine gl2_run (P := fun σ a0 a1 o => GG gctC X 8 [(0, .inr (.inr 28)), (1, .inl p1), (2, .inl a0), (3, .inl a1)] [] σ o) (fun _ _ _ => g_none) (fun rec hrec σ v2 v3 => ?_)
  unfold l_He_freeRoom_8
  refine g_iload_n C D_He_freeRoom_8 rfl 3 rfl ?_
  refine g_iload_n C D_He_freeRoom_9 rfl 1 rfl ?_
  refine g_icmp_ge (tgt := 42) C D_He_freeRoom_10 (by decide) ?_ ?_
  · refine g_sub [2] rfl ?_
    exact hk1 _ _
  · refine g_iload_n C D_He_freeRoom_13 rfl 3 rfl ?_
    refine g_bipush C D_He_freeRoom_14 (by decide) ⟨by decide, by decide⟩ ?_
    refine g_icmp_gt (tgt := 42) C D_He_freeRoom_16 (by decide) ?_ ?_
    · refine g_sub [2] rfl ?_
      exact hk1 _ _
    · refine g_iload_n C D_He_freeRoom_19 rfl 2 rfl ?_
      refine g_sipush C D_He_freeRoom_20 (by decide) ⟨by decide, by decide⟩ ?_
      refine g_icmp_ge (tgt := 42) C D_He_freeRoom_23 (by decide) ?_ ?_
      · refine g_sub [2] rfl ?_
        exact hk1 _ _
      · refine g_aload_n C D_He_freeRoom_26 rfl 0 rfl ?_
        refine g_aload_n C D_He_freeRoom_27 rfl 0 rfl ?_
        refine g_iload_n C D_He_freeRoom_28 rfl 2 rfl ?_
        refine g_callVi (ci := 2) C [.inl v2] [.inr (.inr 28)] (Or.inl rfl) rfl (fun _ h1 h2 h3 => c_He_freeEnd h1 h2 h3) rfl rfl wc_2_75 (by decide) (Nat.le_of_ble_eq_true rfl) D_He_freeRoom_29 (fun s1 a2 => ?_)
        refine g_callVi (ci := 2) C [.inl a2] [] (Or.inl rfl) rfl (fun _ h1 h2 h3 => c_He_freeStart h1 h2 h3) rfl rfl wc_2_72 (by decide) (Nat.le_of_ble_eq_true rfl) D_He_freeRoom_32 (fun s3 a4 => ?_)
        refine g_istore_n (L' := [(2, .inl a4), (0, .inr (.inr 28)), (1, .inl p1), (3, .inl v3)]) C D_He_freeRoom_35 rfl (by decide) rfl ?_
        refine g_iinc (t := 3) (L' := fun z => [(3, .inl z), (2, .inl a4), (0, .inr (.inr 28)), (1, .inl p1)]) C D_He_freeRoom_36 rfl (by decide) (fun _ => rfl) (fun a5 => ?_)
        refine g_goto (tgt := 8) C D_He_freeRoom_39 (by decide) ?_
        refine g_sub [2, 3, 1, 0] rfl ?_
        exact hrec _ _ _
def j_He_freeRoom_55 (σ : gM) (t0 : Int) : gO :=
  some (σ, t0)
set_option maxHeartbeats 4000000 in
theorem wj_He_freeRoom_55 {X : gX} (C : gC gctC prog_4_method_10_code kR2 4 2 47 (some .int) X) (σ : gM) (t0 : Int) : GG gctC X 55 [] [.inl t0] σ (j_He_freeRoom_55 σ t0) := by
  unfold j_He_freeRoom_55
  exact g_iret C D_He_freeRoom_55
def j_He_freeRoom_42 (σ : gM) (v2 : Int) : gO :=
  if v2 < 1024 then
  (j_He_freeRoom_55 σ v2)
  else
  (j_He_freeRoom_55 σ (-4))
set_option maxHeartbeats 4000000 in
theorem wj_He_freeRoom_42 {X : gX} (C : gC gctC prog_4_method_10_code kR2 4 2 47 (some .int) X) (σ : gM) (v2 : Int) : GG gctC X 42 [(2, .inl v2)] [] σ (j_He_freeRoom_42 σ v2) := by
  unfold j_He_freeRoom_42
  refine g_iload_n C D_He_freeRoom_42 rfl 0 rfl ?_
  refine g_sipush C D_He_freeRoom_43 (by decide) ⟨by decide, by decide⟩ ?_
  refine g_icmp_ge (tgt := 53) C D_He_freeRoom_46 (by decide) ?_ ?_
  · refine g_bipush C D_He_freeRoom_53 (by decide) ⟨by decide, by decide⟩ ?_
    refine g_sub [] rfl ?_
    exact wj_He_freeRoom_55 C _ _
  · refine g_iload_n C D_He_freeRoom_49 rfl 0 rfl ?_
    refine g_goto (tgt := 55) C D_He_freeRoom_50 (by decide) ?_
    refine g_sub [] rfl ?_
    exact wj_He_freeRoom_55 C _ _
def F_He_freeRoom (σ : gM) (v1 : Int) : gO :=
  gk (F_He_freeStart σ 0) fun s1 a2 =>
  gl2 (l_He_freeRoom_8 (fun s4 b3 => j_He_freeRoom_42 s4 b3) v1) 200 s1 a2 0
set_option maxHeartbeats 4000000 in
theorem w_He_freeRoom {X : gX} (C : gC gctC prog_4_method_10_code kR2 4 2 47 (some .int) X) (σ : gM) (v1 : Int) : GG gctC X 0 [(0, .inr (.inr 28)), (1, .inl v1)] [] σ (F_He_freeRoom σ v1) := by
  unfold F_He_freeRoom
  refine g_aload_n C D_He_freeRoom_0 rfl 0 rfl ?_
  refine g_iconst C D_He_freeRoom_1 ⟨by decide, by decide⟩ ?_
  refine g_callVi (ci := 2) C [.inl 0] [] (Or.inl rfl) rfl (fun _ h1 h2 h3 => c_He_freeStart h1 h2 h3) rfl rfl wc_2_72 (by decide) (Nat.le_of_ble_eq_true rfl) D_He_freeRoom_2 (fun s1 a2 => ?_)
  refine g_istore_n (L' := [(2, .inl a2), (0, .inr (.inr 28)), (1, .inl v1)]) C D_He_freeRoom_5 rfl (by decide) rfl ?_
  refine g_iconst C D_He_freeRoom_6 ⟨by decide, by decide⟩ ?_
  refine g_istore_n (L' := [(3, .inl 0), (2, .inl a2), (0, .inr (.inr 28)), (1, .inl v1)]) C D_He_freeRoom_7 rfl (by decide) rfl ?_
  refine g_sub [2, 3, 1, 0] rfl ?_
  exact wl_He_freeRoom_8 C (fun s4 b3 => by
      exact wj_He_freeRoom_42 C _ _) 200 _ _ _
theorem c_He_freeRoom {σ : gM} {v1 : Int} {r : gR} (ho : F_He_freeRoom σ v1 = some r) (hok : gOk [.inr (.inr 28), .inl v1]) (hin : gIn gctC σ) : gCt gctC Y_He_freeRoom prog_4_method_10_code 4 (some .int) 2 47 [.inr (.inr 28), .inl v1] σ r := g_entry (by decide) rfl (Nat.le_of_ble_eq_true rfl) ho hok hin (fun X C => w_He_freeRoom C σ v1)
theorem D_He_roomFor_0 : decode prog_4_method_11_code 0 = .ok (.iload_n 1, 1) := by decide +kernel
theorem D_He_roomFor_1 : decode prog_4_method_11_code 1 = .ok (.invokestatic 69, 3) := by decide +kernel
theorem D_He_roomFor_4 : decode prog_4_method_11_code 4 = .ok (.istore_n 2, 1) := by decide +kernel
theorem D_He_roomFor_5 : decode prog_4_method_11_code 5 = .ok (.bipush (-4), 2) := by decide +kernel
theorem D_He_roomFor_7 : decode prog_4_method_11_code 7 = .ok (.istore_n 3, 1) := by decide +kernel
theorem D_He_roomFor_8 : decode prog_4_method_11_code 8 = .ok (.iconst 0, 1) := by decide +kernel
theorem D_He_roomFor_9 : decode prog_4_method_11_code 9 = .ok (.istore 4, 2) := by decide +kernel
theorem D_He_roomFor_11 : decode prog_4_method_11_code 11 = .ok (.aload_n 0, 1) := by decide +kernel
theorem D_He_roomFor_12 : decode prog_4_method_11_code 12 = .ok (.iconst 0, 1) := by decide +kernel
theorem D_He_roomFor_13 : decode prog_4_method_11_code 13 = .ok (.invokevirtual 72, 3) := by decide +kernel
theorem D_He_roomFor_16 : decode prog_4_method_11_code 16 = .ok (.istore 5, 2) := by decide +kernel
theorem D_He_roomFor_18 : decode prog_4_method_11_code 18 = .ok (.iconst 0, 1) := by decide +kernel
theorem D_He_roomFor_19 : decode prog_4_method_11_code 19 = .ok (.istore 6, 2) := by decide +kernel
theorem D_He_roomFor_21 : decode prog_4_method_11_code 21 = .ok (.iload 6, 2) := by decide +kernel
theorem D_He_roomFor_23 : decode prog_4_method_11_code 23 = .ok (.bipush 40, 2) := by decide +kernel
theorem D_He_roomFor_25 : decode prog_4_method_11_code 25 = .ok (.if_icmp .gt 78, 3) := by decide +kernel
theorem D_He_roomFor_28 : decode prog_4_method_11_code 28 = .ok (.iload 5, 2) := by decide +kernel
theorem D_He_roomFor_30 : decode prog_4_method_11_code 30 = .ok (.sipush 1024, 3) := by decide +kernel
theorem D_He_roomFor_33 : decode prog_4_method_11_code 33 = .ok (.if_icmp .ge 70, 3) := by decide +kernel
theorem D_He_roomFor_36 : decode prog_4_method_11_code 36 = .ok (.aload_n 0, 1) := by decide +kernel
theorem D_He_roomFor_37 : decode prog_4_method_11_code 37 = .ok (.iload 5, 2) := by decide +kernel
theorem D_He_roomFor_39 : decode prog_4_method_11_code 39 = .ok (.invokevirtual 75, 3) := by decide +kernel
theorem D_He_roomFor_42 : decode prog_4_method_11_code 42 = .ok (.istore 7, 2) := by decide +kernel
theorem D_He_roomFor_44 : decode prog_4_method_11_code 44 = .ok (.iload 7, 2) := by decide +kernel
theorem D_He_roomFor_46 : decode prog_4_method_11_code 46 = .ok (.iload 5, 2) := by decide +kernel
theorem D_He_roomFor_48 : decode prog_4_method_11_code 48 = .ok (.isub, 1) := by decide +kernel
theorem D_He_roomFor_49 : decode prog_4_method_11_code 49 = .ok (.istore 8, 2) := by decide +kernel
theorem D_He_roomFor_51 : decode prog_4_method_11_code 51 = .ok (.iload 8, 2) := by decide +kernel
theorem D_He_roomFor_53 : decode prog_4_method_11_code 53 = .ok (.iload_n 2, 1) := by decide +kernel
theorem D_He_roomFor_54 : decode prog_4_method_11_code 54 = .ok (.if_icmp .lt 35, 3) := by decide +kernel
theorem D_He_roomFor_57 : decode prog_4_method_11_code 57 = .ok (.iload_n 3, 1) := by decide +kernel
theorem D_He_roomFor_58 : decode prog_4_method_11_code 58 = .ok (.bipush (-4), 2) := by decide +kernel
theorem D_He_roomFor_60 : decode prog_4_method_11_code 60 = .ok (.if_icmp .eq 10, 3) := by decide +kernel
theorem D_He_roomFor_63 : decode prog_4_method_11_code 63 = .ok (.iload 8, 2) := by decide +kernel
theorem D_He_roomFor_65 : decode prog_4_method_11_code 65 = .ok (.iload 4, 2) := by decide +kernel
theorem D_He_roomFor_67 : decode prog_4_method_11_code 67 = .ok (.if_icmp .ge 22, 3) := by decide +kernel
theorem D_He_roomFor_70 : decode prog_4_method_11_code 70 = .ok (.iload 5, 2) := by decide +kernel
theorem D_He_roomFor_72 : decode prog_4_method_11_code 72 = .ok (.istore_n 3, 1) := by decide +kernel
theorem D_He_roomFor_73 : decode prog_4_method_11_code 73 = .ok (.iload 8, 2) := by decide +kernel
theorem D_He_roomFor_75 : decode prog_4_method_11_code 75 = .ok (.istore 4, 2) := by decide +kernel
theorem D_He_roomFor_77 : decode prog_4_method_11_code 77 = .ok (.aload_n 0, 1) := by decide +kernel
theorem D_He_roomFor_78 : decode prog_4_method_11_code 78 = .ok (.getfield 52, 3) := by decide +kernel
theorem D_He_roomFor_81 : decode prog_4_method_11_code 81 = .ok (.iconst 3, 1) := by decide +kernel
theorem D_He_roomFor_82 : decode prog_4_method_11_code 82 = .ok (.iaload, 1) := by decide +kernel
theorem D_He_roomFor_83 : decode prog_4_method_11_code 83 = .ok (.ifCond .ne 6, 3) := by decide +kernel
theorem D_He_roomFor_86 : decode prog_4_method_11_code 86 = .ok (.goto 17, 3) := by decide +kernel
theorem D_He_roomFor_89 : decode prog_4_method_11_code 89 = .ok (.aload_n 0, 1) := by decide +kernel
theorem D_He_roomFor_90 : decode prog_4_method_11_code 90 = .ok (.iload 7, 2) := by decide +kernel
theorem D_He_roomFor_92 : decode prog_4_method_11_code 92 = .ok (.invokevirtual 72, 3) := by decide +kernel
theorem D_He_roomFor_95 : decode prog_4_method_11_code 95 = .ok (.istore 5, 2) := by decide +kernel
theorem D_He_roomFor_97 : decode prog_4_method_11_code 97 = .ok (.iinc 6 1, 3) := by decide +kernel
theorem D_He_roomFor_100 : decode prog_4_method_11_code 100 = .ok (.goto (-79), 3) := by decide +kernel
theorem D_He_roomFor_103 : decode prog_4_method_11_code 103 = .ok (.iload_n 3, 1) := by decide +kernel
theorem D_He_roomFor_104 : decode prog_4_method_11_code 104 = .ok (.ireturn, 1) := by decide +kernel
def j_He_roomFor_89 (k1 : gM → Int → gO) (k2 : gM → Int → gO) (rec : gM → Int → Int → Int → Int → gO) (σ : gM) (p2 v3 v4 v6 v7 : Int) : gO :=
  gk (F_He_freeStart σ v7) fun s1 a2 =>
  ga (v6 + 1) fun a3 =>
  rec s1 v3 v4 a2 a3
set_option maxHeartbeats 4000000 in
theorem wj_He_roomFor_89 {X : gX} (C : gC gctC prog_4_method_11_code kR2 9 2 47 (some .int) X) {p2 : Int} {k1 : gM → Int → gO} (hk1 : ∀ (σ : gM) (a0 : Int), GG gctC X 86 [(3, .inl a0)] [] σ (k1 σ a0)) {k2 : gM → Int → gO} (hk2 : ∀ (σ : gM) (a0 : Int), GG gctC X 103 [(3, .inl a0)] [] σ (k2 σ a0)) {rec : gM → Int → Int → Int → Int → gO} (hrec : ∀ (σ : gM) (a0 a1 a2 a3 : Int), GG gctC X 21 [(0, .inr (.inr 28)), (2, .inl p2), (3, .inl a0), (4, .inl a1), (5, .inl a2), (6, .inl a3)] [] σ (rec σ a0 a1 a2 a3)) (σ : gM) (v3 v4 v6 v7 : Int) : GG gctC X 89 [(0, .inr (.inr 28)), (2, .inl p2), (3, .inl v3), (4, .inl v4), (6, .inl v6), (7, .inl v7)] [] σ (j_He_roomFor_89 k1 k2 rec σ p2 v3 v4 v6 v7) := by
  unfold j_He_roomFor_89
  refine g_aload_n C D_He_roomFor_89 rfl 0 rfl ?_
  refine g_iload C D_He_roomFor_90 5 rfl ?_
  refine g_callVi (ci := 2) C [.inl v7] [] (Or.inl rfl) rfl (fun _ h1 h2 h3 => c_He_freeStart h1 h2 h3) rfl rfl wc_2_72 (by decide) (Nat.le_of_ble_eq_true rfl) D_He_roomFor_92 (fun s1 a2 => ?_)
  refine g_istore (L' := [(5, .inl a2), (0, .inr (.inr 28)), (2, .inl p2), (3, .inl v3), (4, .inl v4), (6, .inl v6), (7, .inl v7)]) C D_He_roomFor_95 (by decide) rfl ?_
  refine g_iinc (t := 5) (L' := fun z => [(6, .inl z), (5, .inl a2), (0, .inr (.inr 28)), (2, .inl p2), (3, .inl v3), (4, .inl v4), (7, .inl v7)]) C D_He_roomFor_97 rfl (by decide) (fun _ => rfl) (fun a3 => ?_)
  refine g_goto (tgt := 21) C D_He_roomFor_100 (by decide) ?_
  refine g_sub [2, 3, 4, 5, 1, 0] rfl ?_
  exact hrec _ _ _ _ _
def j_He_roomFor_70 (k1 : gM → Int → gO) (k2 : gM → Int → gO) (rec : gM → Int → Int → Int → Int → gO) (σ : gM) (p2 v5 v6 v7 v8 : Int) : gO :=
  gi 3 4 <|
  if (σ 1 3) = 0 then
  (k1 σ v5)
  else
  (j_He_roomFor_89 k1 k2 rec σ p2 v5 v8 v6 v7)
set_option maxHeartbeats 4000000 in
theorem wj_He_roomFor_70 {X : gX} (C : gC gctC prog_4_method_11_code kR2 9 2 47 (some .int) X) {p2 : Int} {k1 : gM → Int → gO} (hk1 : ∀ (σ : gM) (a0 : Int), GG gctC X 86 [(3, .inl a0)] [] σ (k1 σ a0)) {k2 : gM → Int → gO} (hk2 : ∀ (σ : gM) (a0 : Int), GG gctC X 103 [(3, .inl a0)] [] σ (k2 σ a0)) {rec : gM → Int → Int → Int → Int → gO} (hrec : ∀ (σ : gM) (a0 a1 a2 a3 : Int), GG gctC X 21 [(0, .inr (.inr 28)), (2, .inl p2), (3, .inl a0), (4, .inl a1), (5, .inl a2), (6, .inl a3)] [] σ (rec σ a0 a1 a2 a3)) (σ : gM) (v5 v6 v7 v8 : Int) : GG gctC X 70 [(0, .inr (.inr 28)), (2, .inl p2), (5, .inl v5), (6, .inl v6), (7, .inl v7), (8, .inl v8)] [] σ (j_He_roomFor_70 k1 k2 rec σ p2 v5 v6 v7 v8) := by
  unfold j_He_roomFor_70
  refine g_iload C D_He_roomFor_70 2 rfl ?_
  refine g_istore_n (L' := [(3, .inl v5), (0, .inr (.inr 28)), (2, .inl p2), (5, .inl v5), (6, .inl v6), (7, .inl v7), (8, .inl v8)]) C D_He_roomFor_72 rfl (by decide) rfl ?_
  refine g_iload C D_He_roomFor_73 6 rfl ?_
  refine g_istore (L' := [(4, .inl v8), (3, .inl v5), (0, .inr (.inr 28)), (2, .inl p2), (5, .inl v5), (6, .inl v6), (7, .inl v7), (8, .inl v8)]) C D_He_roomFor_75 (by decide) rfl ?_
  refine g_aload_n C D_He_roomFor_77 rfl 2 rfl ?_
  refine g_getr (ci := 2) C 13 rfl kI2 rfl (by decide) rfl rfl wf_2_52 D_He_roomFor_78 ?_
  refine g_iconst C D_He_roomFor_81 ⟨by decide, by decide⟩ ?_
  refine g_iald C rfl rfl rfl D_He_roomFor_82 ?_
  refine g_if_ne (tgt := 89) C D_He_roomFor_83 (by decide) ?_ ?_
  · refine g_sub [2, 3, 1, 0, 5, 6] rfl ?_
    exact wj_He_roomFor_89 C hk1 hk2 hrec _ _ _ _ _
  · refine g_sub [1] rfl ?_
    exact hk1 _ _
def l_He_roomFor_21 (k1 : gM → Int → gO) (k2 : gM → Int → gO) (p2 : Int) (rec : gM → Int → Int → Int → Int → gO) (σ : gM) (v3 v4 v5 v6 : Int) : gO :=
  if 40 < v6 then
  (k2 σ v3)
  else
  (if v5 < 1024 then
  (gk (F_He_freeEnd σ v5) fun s1 a2 =>
  ga (a2 - v5) fun a3 =>
  if a3 < p2 then
  (j_He_roomFor_89 k1 k2 rec s1 p2 v3 v4 v6 a2)
  else
  (if v3 = (-4) then
  (j_He_roomFor_70 k1 k2 rec s1 p2 v5 v6 a2 a3)
  else
  (if a3 < v4 then
  (j_He_roomFor_70 k1 k2 rec s1 p2 v5 v6 a2 a3)
  else
  (j_He_roomFor_89 k1 k2 rec s1 p2 v3 v4 v6 a2))))
  else
  (k2 σ v3))
set_option maxHeartbeats 4000000 in
theorem wl_He_roomFor_21 {X : gX} (C : gC gctC prog_4_method_11_code kR2 9 2 47 (some .int) X) {p2 : Int} {k1 : gM → Int → gO} (hk1 : ∀ (σ : gM) (a0 : Int), GG gctC X 86 [(3, .inl a0)] [] σ (k1 σ a0)) {k2 : gM → Int → gO} (hk2 : ∀ (σ : gM) (a0 : Int), GG gctC X 103 [(3, .inl a0)] [] σ (k2 σ a0)) : ∀ (n : Nat) (σ : gM) (a0 a1 a2 a3 : Int), GG gctC X 21 [(0, .inr (.inr 28)), (2, .inl p2), (3, .inl a0), (4, .inl a1), (5, .inl a2), (6, .inl a3)] [] σ (gl4 (l_He_roomFor_21 k1 k2 p2) n σ a0 a1 a2 a3) := by
  refine gl4_run (P := fun σ a0 a1 a2 a3 o => GG gctC X 21 [(0, .inr (.inr 28)), (2, .inl p2), (3, .inl a0), (4, .inl a1), (5, .inl a2), (6, .inl a3)] [] σ o) (fun _ _ _ _ _ => g_none) (fun rec hrec σ v3 v4 v5 v6 => ?_)
  unfold l_He_roomFor_21
  refine g_iload C D_He_roomFor_21 5 rfl ?_
  refine g_bipush C D_He_roomFor_23 (by decide) ⟨by decide, by decide⟩ ?_
  refine g_icmp_gt (tgt := 103) C D_He_roomFor_25 (by decide) ?_ ?_
  · refine g_sub [2] rfl ?_
    exact hk2 _ _
  · refine g_iload C D_He_roomFor_28 4 rfl ?_
    refine g_sipush C D_He_roomFor_30 (by decide) ⟨by decide, by decide⟩ ?_
    refine g_icmp_ge (tgt := 103) C D_He_roomFor_33 (by decide) ?_ ?_
    · refine g_sub [2] rfl ?_
      exact hk2 _ _
    · refine g_aload_n C D_He_roomFor_36 rfl 0 rfl ?_
      refine g_iload C D_He_roomFor_37 4 rfl ?_
      refine g_callVi (ci := 2) C [.inl v5] [] (Or.inl rfl) rfl (fun _ h1 h2 h3 => c_He_freeEnd h1 h2 h3) rfl rfl wc_2_75 (by decide) (Nat.le_of_ble_eq_true rfl) D_He_roomFor_39 (fun s1 a2 => ?_)
      refine g_istore (L' := [(7, .inl a2), (0, .inr (.inr 28)), (2, .inl p2), (3, .inl v3), (4, .inl v4), (5, .inl v5), (6, .inl v6)]) C D_He_roomFor_42 (by decide) rfl ?_
      refine g_iload C D_He_roomFor_44 0 rfl ?_
      refine g_iload C D_He_roomFor_46 5 rfl ?_
      refine g_isub C D_He_roomFor_48 (fun a3 => ?_)
      refine g_istore (L' := [(8, .inl a3), (7, .inl a2), (0, .inr (.inr 28)), (2, .inl p2), (3, .inl v3), (4, .inl v4), (5, .inl v5), (6, .inl v6)]) C D_He_roomFor_49 (by decide) rfl ?_
      refine g_iload C D_He_roomFor_51 0 rfl ?_
      refine g_iload_n C D_He_roomFor_53 rfl 3 rfl ?_
      refine g_icmp_lt (tgt := 89) C D_He_roomFor_54 (by decide) ?_ ?_
      · refine g_sub [2, 3, 4, 5, 7, 1] rfl ?_
        exact wj_He_roomFor_89 C hk1 hk2 hrec _ _ _ _ _
      · refine g_iload_n C D_He_roomFor_57 rfl 4 rfl ?_
        refine g_bipush C D_He_roomFor_58 (by decide) ⟨by decide, by decide⟩ ?_
        refine g_icmp_eq (tgt := 70) C D_He_roomFor_60 (by decide) ?_ ?_
        · refine g_sub [2, 3, 6, 7, 1, 0] rfl ?_
          exact wj_He_roomFor_70 C hk1 hk2 hrec _ _ _ _ _
        · refine g_iload C D_He_roomFor_63 0 rfl ?_
          refine g_iload C D_He_roomFor_65 5 rfl ?_
          refine g_icmp_ge (tgt := 89) C D_He_roomFor_67 (by decide) ?_ ?_
          · refine g_sub [2, 3, 4, 5, 7, 1] rfl ?_
            exact wj_He_roomFor_89 C hk1 hk2 hrec _ _ _ _ _
          · refine g_sub [2, 3, 6, 7, 1, 0] rfl ?_
            exact wj_He_roomFor_70 C hk1 hk2 hrec _ _ _ _ _
def j_He_roomFor_103 (σ : gM) (v3 : Int) : gO :=
  some (σ, v3)
set_option maxHeartbeats 4000000 in
theorem wj_He_roomFor_103 {X : gX} (C : gC gctC prog_4_method_11_code kR2 9 2 47 (some .int) X) (σ : gM) (v3 : Int) : GG gctC X 103 [(3, .inl v3)] [] σ (j_He_roomFor_103 σ v3) := by
  unfold j_He_roomFor_103
  refine g_iload_n C D_He_roomFor_103 rfl 0 rfl ?_
  exact g_iret C D_He_roomFor_104
def F_He_roomFor (σ : gM) (v1 : Int) : gO :=
  gk (F_He_rounded σ v1) fun s1 a2 =>
  gk (F_He_freeStart s1 0) fun s3 a4 =>
  gl4 (l_He_roomFor_21 (fun s6 b5 => j_He_roomFor_103 s6 b5) (fun s8 b7 => j_He_roomFor_103 s8 b7) a2) 200 s3 (-4) 0 a4 0
set_option maxHeartbeats 4000000 in
theorem w_He_roomFor {X : gX} (C : gC gctC prog_4_method_11_code kR2 9 2 47 (some .int) X) (σ : gM) (v1 : Int) : GG gctC X 0 [(0, .inr (.inr 28)), (1, .inl v1)] [] σ (F_He_roomFor σ v1) := by
  unfold F_He_roomFor
  refine g_iload_n C D_He_roomFor_0 rfl 1 rfl ?_
  refine g_callSi C [.inl v1] [] (Or.inl rfl) rfl (fun _ h1 h2 h3 => c_He_rounded h1 h2 h3) wc_2_69 (by decide) (Nat.le_of_ble_eq_true rfl) D_He_roomFor_1 (fun s1 a2 => ?_)
  refine g_istore_n (L' := [(2, .inl a2), (0, .inr (.inr 28)), (1, .inl v1)]) C D_He_roomFor_4 rfl (by decide) rfl ?_
  refine g_bipush C D_He_roomFor_5 (by decide) ⟨by decide, by decide⟩ ?_
  refine g_istore_n (L' := [(3, .inl (-4)), (2, .inl a2), (0, .inr (.inr 28)), (1, .inl v1)]) C D_He_roomFor_7 rfl (by decide) rfl ?_
  refine g_iconst C D_He_roomFor_8 ⟨by decide, by decide⟩ ?_
  refine g_istore (L' := [(4, .inl 0), (3, .inl (-4)), (2, .inl a2), (0, .inr (.inr 28)), (1, .inl v1)]) C D_He_roomFor_9 (by decide) rfl ?_
  refine g_aload_n C D_He_roomFor_11 rfl 3 rfl ?_
  refine g_iconst C D_He_roomFor_12 ⟨by decide, by decide⟩ ?_
  refine g_callVi (ci := 2) C [.inl 0] [] (Or.inl rfl) rfl (fun _ h1 h2 h3 => c_He_freeStart h1 h2 h3) rfl rfl wc_2_72 (by decide) (Nat.le_of_ble_eq_true rfl) D_He_roomFor_13 (fun s3 a4 => ?_)
  refine g_istore (L' := [(5, .inl a4), (4, .inl 0), (3, .inl (-4)), (2, .inl a2), (0, .inr (.inr 28)), (1, .inl v1)]) C D_He_roomFor_16 (by decide) rfl ?_
  refine g_iconst C D_He_roomFor_18 ⟨by decide, by decide⟩ ?_
  refine g_istore (L' := [(6, .inl 0), (5, .inl a4), (4, .inl 0), (3, .inl (-4)), (2, .inl a2), (0, .inr (.inr 28)), (1, .inl v1)]) C D_He_roomFor_19 (by decide) rfl ?_
  refine g_sub [5, 4, 3, 2, 1, 0] rfl ?_
  exact wl_He_roomFor_21 C (fun s6 b5 => by
      refine g_goto (tgt := 103) C D_He_roomFor_86 (by decide) ?_
      exact wj_He_roomFor_103 C _ _) (fun s8 b7 => by
      exact wj_He_roomFor_103 C _ _) 200 _ _ _ _ _
theorem c_He_roomFor {σ : gM} {v1 : Int} {r : gR} (ho : F_He_roomFor σ v1 = some r) (hok : gOk [.inr (.inr 28), .inl v1]) (hin : gIn gctC σ) : gCt gctC Y_He_roomFor prog_4_method_11_code 9 (some .int) 2 47 [.inr (.inr 28), .inl v1] σ r := g_entry (by decide) rfl (Nat.le_of_ble_eq_true rfl) ho hok hin (fun X C => w_He_roomFor C σ v1)
theorem D_He_putBehind_0 : decode prog_4_method_14_code 0 = .ok (.aload_n 0, 1) := by decide +kernel
theorem D_He_putBehind_1 : decode prog_4_method_14_code 1 = .ok (.iload_n 1, 1) := by decide +kernel
theorem D_He_putBehind_2 : decode prog_4_method_14_code 2 = .ok (.invokevirtual 55, 3) := by decide +kernel
theorem D_He_putBehind_5 : decode prog_4_method_14_code 5 = .ok (.ifCond .eq 12, 3) := by decide +kernel
theorem D_He_putBehind_8 : decode prog_4_method_14_code 8 = .ok (.aload_n 0, 1) := by decide +kernel
theorem D_He_putBehind_9 : decode prog_4_method_14_code 9 = .ok (.getfield 37, 3) := by decide +kernel
theorem D_He_putBehind_12 : decode prog_4_method_14_code 12 = .ok (.iload_n 1, 1) := by decide +kernel
theorem D_He_putBehind_13 : decode prog_4_method_14_code 13 = .ok (.baload, 1) := by decide +kernel
theorem D_He_putBehind_14 : decode prog_4_method_14_code 14 = .ok (.ifCond .eq 4, 3) := by decide +kernel
theorem D_He_putBehind_17 : decode prog_4_method_14_code 17 = .ok (.return_, 1) := by decide +kernel
theorem D_He_putBehind_18 : decode prog_4_method_14_code 18 = .ok (.aload_n 0, 1) := by decide +kernel
theorem D_He_putBehind_19 : decode prog_4_method_14_code 19 = .ok (.getfield 37, 3) := by decide +kernel
theorem D_He_putBehind_22 : decode prog_4_method_14_code 22 = .ok (.iload_n 1, 1) := by decide +kernel
theorem D_He_putBehind_23 : decode prog_4_method_14_code 23 = .ok (.iconst 1, 1) := by decide +kernel
theorem D_He_putBehind_24 : decode prog_4_method_14_code 24 = .ok (.bastore, 1) := by decide +kernel
theorem D_He_putBehind_25 : decode prog_4_method_14_code 25 = .ok (.aload_n 0, 1) := by decide +kernel
theorem D_He_putBehind_26 : decode prog_4_method_14_code 26 = .ok (.getfield 34, 3) := by decide +kernel
theorem D_He_putBehind_29 : decode prog_4_method_14_code 29 = .ok (.aload_n 0, 1) := by decide +kernel
theorem D_He_putBehind_30 : decode prog_4_method_14_code 30 = .ok (.getfield 99, 3) := by decide +kernel
theorem D_He_putBehind_33 : decode prog_4_method_14_code 33 = .ok (.iload_n 1, 1) := by decide +kernel
theorem D_He_putBehind_34 : decode prog_4_method_14_code 34 = .ok (.iastore, 1) := by decide +kernel
theorem D_He_putBehind_35 : decode prog_4_method_14_code 35 = .ok (.aload_n 0, 1) := by decide +kernel
theorem D_He_putBehind_36 : decode prog_4_method_14_code 36 = .ok (.dup, 1) := by decide +kernel
theorem D_He_putBehind_37 : decode prog_4_method_14_code 37 = .ok (.getfield 99, 3) := by decide +kernel
theorem D_He_putBehind_40 : decode prog_4_method_14_code 40 = .ok (.iconst 1, 1) := by decide +kernel
theorem D_He_putBehind_41 : decode prog_4_method_14_code 41 = .ok (.iadd, 1) := by decide +kernel
theorem D_He_putBehind_42 : decode prog_4_method_14_code 42 = .ok (.putfield 99, 3) := by decide +kernel
theorem D_He_putBehind_45 : decode prog_4_method_14_code 45 = .ok (.return_, 1) := by decide +kernel
def j_He_putBehind_17 (σ : gM) : gO :=
  some (σ, 0)
set_option maxHeartbeats 4000000 in
theorem wj_He_putBehind_17 {X : gX} (C : gC gctC prog_4_method_14_code kR2 2 1 21 (none) X) (σ : gM) : GG gctC X 17 [] [] σ (j_He_putBehind_17 σ) := by
  unfold j_He_putBehind_17
  exact g_vret C D_He_putBehind_17
def F_He_putBehind (σ : gM) (v1 : Int) : gO :=
  gk (F_He_has σ v1) fun s1 a2 =>
  if a2 = 0 then
  (j_He_putBehind_17 s1)
  else
  (gi v1 40 <|
  if (s1 37 v1) = 0 then
  (gwb s1 37 40 v1 1 fun s3 =>
  gw s3 36 40 (s3 28 9) v1 fun s4 =>
  ga ((s4 28 9) + 1) fun a5 =>
  gp s4 28 9 a5 fun s6 =>
  some (s6, 0))
  else
  (j_He_putBehind_17 s1))
set_option maxHeartbeats 4000000 in
theorem w_He_putBehind {X : gX} (C : gC gctC prog_4_method_14_code kR2 2 1 21 (none) X) (σ : gM) (v1 : Int) : GG gctC X 0 [(0, .inr (.inr 28)), (1, .inl v1)] [] σ (F_He_putBehind σ v1) := by
  unfold F_He_putBehind
  refine g_aload_n C D_He_putBehind_0 rfl 0 rfl ?_
  refine g_iload_n C D_He_putBehind_1 rfl 1 rfl ?_
  refine g_callVi (ci := 2) C [.inl v1] [] (Or.inr rfl) rfl (fun _ h1 h2 h3 => c_He_has h1 h2 h3) rfl rfl wc_2_55 (by decide) (Nat.le_of_ble_eq_true rfl) D_He_putBehind_2 (fun s1 a2 => ?_)
  refine g_if_eq (tgt := 17) C D_He_putBehind_5 (by decide) ?_ ?_
  · refine g_sub [] rfl ?_
    exact wj_He_putBehind_17 C _
  · refine g_aload_n C D_He_putBehind_8 rfl 0 rfl ?_
    refine g_getr (ci := 2) C 8 rfl kI2 rfl (by decide) rfl rfl wf_2_37 D_He_putBehind_9 ?_
    refine g_iload_n C D_He_putBehind_12 rfl 1 rfl ?_
    refine g_zald C rfl rfl rfl D_He_putBehind_13 ?_
    refine g_if_eq (tgt := 18) C D_He_putBehind_14 (by decide) ?_ ?_
    · refine g_aload_n C D_He_putBehind_18 rfl 0 rfl ?_
      refine g_getr (ci := 2) C 8 rfl kI2 rfl (by decide) rfl rfl wf_2_37 D_He_putBehind_19 ?_
      refine g_iload_n C D_He_putBehind_22 rfl 1 rfl ?_
      refine g_iconst C D_He_putBehind_23 ⟨by decide, by decide⟩ ?_
      refine g_zast C rfl rfl D_He_putBehind_24 (fun s3 => ?_)
      refine g_aload_n C D_He_putBehind_25 rfl 0 rfl ?_
      refine g_getr (ci := 2) C 7 rfl kI2 rfl (by decide) rfl rfl wf_2_34 D_He_putBehind_26 ?_
      refine g_aload_n C D_He_putBehind_29 rfl 0 rfl ?_
      refine g_get (ci := 2) C 9 (jz := 9) rfl rfl kI2 rfl (by decide) rfl rfl wf_2_99 rfl D_He_putBehind_30 ?_
      refine g_iload_n C D_He_putBehind_33 rfl 1 rfl ?_
      refine g_iast C rfl rfl D_He_putBehind_34 (fun s4 => ?_)
      refine g_aload_n C D_He_putBehind_35 rfl 0 rfl ?_
      refine g_dup C D_He_putBehind_36 rfl ?_
      refine g_get (ci := 2) C 9 (jz := 9) rfl rfl kI2 rfl (by decide) rfl rfl wf_2_99 rfl D_He_putBehind_37 ?_
      refine g_iconst C D_He_putBehind_40 ⟨by decide, by decide⟩ ?_
      refine g_iadd C D_He_putBehind_41 (fun a5 => ?_)
      refine g_putI (ci := 2) C 9 (jz := 9) rfl rfl kI2 kO2 kN2 rfl (by decide) rfl rfl wf_2_99 D_He_putBehind_42 (fun s6 => ?_)
      exact g_vret C D_He_putBehind_45
    · refine g_sub [] rfl ?_
      exact wj_He_putBehind_17 C _
theorem c_He_putBehind {σ : gM} {v1 : Int} {r : gR} (ho : F_He_putBehind σ v1 = some r) (hok : gOk [.inr (.inr 28), .inl v1]) (hin : gIn gctC σ) : gCt gctC Y_He_putBehind prog_4_method_14_code 2 (none) 1 21 [.inr (.inr 28), .inl v1] σ r := g_entry (by decide) rfl (Nat.le_of_ble_eq_true rfl) ho hok hin (fun X C => w_He_putBehind C σ v1)
theorem D_He_startRow_0 : decode prog_4_method_13_code 0 = .ok (.aload_n 0, 1) := by decide +kernel
theorem D_He_startRow_1 : decode prog_4_method_13_code 1 = .ok (.iconst 0, 1) := by decide +kernel
theorem D_He_startRow_2 : decode prog_4_method_13_code 2 = .ok (.putfield 99, 3) := by decide +kernel
theorem D_He_startRow_5 : decode prog_4_method_13_code 5 = .ok (.iconst 0, 1) := by decide +kernel
theorem D_He_startRow_6 : decode prog_4_method_13_code 6 = .ok (.istore_n 2, 1) := by decide +kernel
theorem D_He_startRow_7 : decode prog_4_method_13_code 7 = .ok (.iload_n 2, 1) := by decide +kernel
theorem D_He_startRow_8 : decode prog_4_method_13_code 8 = .ok (.bipush 40, 2) := by decide +kernel
theorem D_He_startRow_10 : decode prog_4_method_13_code 10 = .ok (.if_icmp .ge 16, 3) := by decide +kernel
theorem D_He_startRow_13 : decode prog_4_method_13_code 13 = .ok (.aload_n 0, 1) := by decide +kernel
theorem D_He_startRow_14 : decode prog_4_method_13_code 14 = .ok (.getfield 37, 3) := by decide +kernel
theorem D_He_startRow_17 : decode prog_4_method_13_code 17 = .ok (.iload_n 2, 1) := by decide +kernel
theorem D_He_startRow_18 : decode prog_4_method_13_code 18 = .ok (.iconst 0, 1) := by decide +kernel
theorem D_He_startRow_19 : decode prog_4_method_13_code 19 = .ok (.bastore, 1) := by decide +kernel
theorem D_He_startRow_20 : decode prog_4_method_13_code 20 = .ok (.iinc 2 1, 3) := by decide +kernel
theorem D_He_startRow_23 : decode prog_4_method_13_code 23 = .ok (.goto (-16), 3) := by decide +kernel
theorem D_He_startRow_26 : decode prog_4_method_13_code 26 = .ok (.iconst 0, 1) := by decide +kernel
theorem D_He_startRow_27 : decode prog_4_method_13_code 27 = .ok (.istore_n 2, 1) := by decide +kernel
theorem D_He_startRow_28 : decode prog_4_method_13_code 28 = .ok (.iload_n 2, 1) := by decide +kernel
theorem D_He_startRow_29 : decode prog_4_method_13_code 29 = .ok (.bipush 8, 2) := by decide +kernel
theorem D_He_startRow_31 : decode prog_4_method_13_code 31 = .ok (.if_icmp .ge 19, 3) := by decide +kernel
theorem D_He_startRow_34 : decode prog_4_method_13_code 34 = .ok (.aload_n 0, 1) := by decide +kernel
theorem D_He_startRow_35 : decode prog_4_method_13_code 35 = .ok (.aload_n 0, 1) := by decide +kernel
theorem D_He_startRow_36 : decode prog_4_method_13_code 36 = .ok (.getfield 28, 3) := by decide +kernel
theorem D_He_startRow_39 : decode prog_4_method_13_code 39 = .ok (.iload_n 2, 1) := by decide +kernel
theorem D_He_startRow_40 : decode prog_4_method_13_code 40 = .ok (.iaload, 1) := by decide +kernel
theorem D_He_startRow_41 : decode prog_4_method_13_code 41 = .ok (.invokevirtual 89, 3) := by decide +kernel
theorem D_He_startRow_44 : decode prog_4_method_13_code 44 = .ok (.iinc 2 1, 3) := by decide +kernel
theorem D_He_startRow_47 : decode prog_4_method_13_code 47 = .ok (.goto (-19), 3) := by decide +kernel
theorem D_He_startRow_50 : decode prog_4_method_13_code 50 = .ok (.iload_n 1, 1) := by decide +kernel
theorem D_He_startRow_51 : decode prog_4_method_13_code 51 = .ok (.iconst 2, 1) := by decide +kernel
theorem D_He_startRow_52 : decode prog_4_method_13_code 52 = .ok (.if_icmp .eq 4, 3) := by decide +kernel
theorem D_He_startRow_55 : decode prog_4_method_13_code 55 = .ok (.return_, 1) := by decide +kernel
theorem D_He_startRow_56 : decode prog_4_method_13_code 56 = .ok (.iconst 0, 1) := by decide +kernel
theorem D_He_startRow_57 : decode prog_4_method_13_code 57 = .ok (.istore_n 2, 1) := by decide +kernel
theorem D_He_startRow_58 : decode prog_4_method_13_code 58 = .ok (.iload_n 2, 1) := by decide +kernel
theorem D_He_startRow_59 : decode prog_4_method_13_code 59 = .ok (.bipush 40, 2) := by decide +kernel
theorem D_He_startRow_61 : decode prog_4_method_13_code 61 = .ok (.if_icmp .ge 24, 3) := by decide +kernel
theorem D_He_startRow_64 : decode prog_4_method_13_code 64 = .ok (.aload_n 0, 1) := by decide +kernel
theorem D_He_startRow_65 : decode prog_4_method_13_code 65 = .ok (.getfield 18, 3) := by decide +kernel
theorem D_He_startRow_68 : decode prog_4_method_13_code 68 = .ok (.iload_n 2, 1) := by decide +kernel
theorem D_He_startRow_69 : decode prog_4_method_13_code 69 = .ok (.iaload, 1) := by decide +kernel
theorem D_He_startRow_70 : decode prog_4_method_13_code 70 = .ok (.iconst 2, 1) := by decide +kernel
theorem D_He_startRow_71 : decode prog_4_method_13_code 71 = .ok (.if_icmp .lt 8, 3) := by decide +kernel
theorem D_He_startRow_74 : decode prog_4_method_13_code 74 = .ok (.aload_n 0, 1) := by decide +kernel
theorem D_He_startRow_75 : decode prog_4_method_13_code 75 = .ok (.iload_n 2, 1) := by decide +kernel
theorem D_He_startRow_76 : decode prog_4_method_13_code 76 = .ok (.invokevirtual 89, 3) := by decide +kernel
theorem D_He_startRow_79 : decode prog_4_method_13_code 79 = .ok (.iinc 2 1, 3) := by decide +kernel
theorem D_He_startRow_82 : decode prog_4_method_13_code 82 = .ok (.goto (-24), 3) := by decide +kernel
theorem D_He_startRow_85 : decode prog_4_method_13_code 85 = .ok (.return_, 1) := by decide +kernel
def l_He_startRow_7 (k1 : gM → gO) (p1 : Int) (rec : gM → Int → gO) (σ : gM) (v2 : Int) : gO :=
  if v2 < 40 then
  (gwb σ 37 40 v2 0 fun s1 =>
  ga (v2 + 1) fun a2 =>
  rec s1 a2)
  else
  (k1 σ)
set_option maxHeartbeats 4000000 in
theorem wl_He_startRow_7 {X : gX} (C : gC gctC prog_4_method_13_code kR2 3 2 42 (none) X) {p1 : Int} {k1 : gM → gO} (hk1 : ∀ (σ : gM), GG gctC X 26 [(0, .inr (.inr 28)), (1, .inl p1)] [] σ (k1 σ)) : ∀ (n : Nat) (σ : gM) (a0 : Int), GG gctC X 7 [(0, .inr (.inr 28)), (1, .inl p1), (2, .inl a0)] [] σ (gl1 (l_He_startRow_7 k1 p1) n σ a0) := by
  refine gl1_run (P := fun σ a0 o => GG gctC X 7 [(0, .inr (.inr 28)), (1, .inl p1), (2, .inl a0)] [] σ o) (fun _ _ => g_none) (fun rec hrec σ v2 => ?_)
  unfold l_He_startRow_7
  refine g_iload_n C D_He_startRow_7 rfl 2 rfl ?_
  refine g_bipush C D_He_startRow_8 (by decide) ⟨by decide, by decide⟩ ?_
  refine g_icmp_ge (tgt := 26) C D_He_startRow_10 (by decide) ?_ ?_
  · refine g_sub [0, 1] rfl ?_
    exact hk1 _
  · refine g_aload_n C D_He_startRow_13 rfl 0 rfl ?_
    refine g_getr (ci := 2) C 8 rfl kI2 rfl (by decide) rfl rfl wf_2_37 D_He_startRow_14 ?_
    refine g_iload_n C D_He_startRow_17 rfl 2 rfl ?_
    refine g_iconst C D_He_startRow_18 ⟨by decide, by decide⟩ ?_
    refine g_zast C rfl rfl D_He_startRow_19 (fun s1 => ?_)
    refine g_iinc (t := 2) (L' := fun z => [(2, .inl z), (0, .inr (.inr 28)), (1, .inl p1)]) C D_He_startRow_20 rfl (by decide) (fun _ => rfl) (fun a2 => ?_)
    refine g_goto (tgt := 7) C D_He_startRow_23 (by decide) ?_
    refine g_sub [1, 2, 0] rfl ?_
    exact hrec _ _
def l_He_startRow_28 (k1 : gM → gO) (p1 : Int) (rec : gM → Int → gO) (σ : gM) (v2 : Int) : gO :=
  if v2 < 8 then
  (gi v2 8 <|
  gk (F_He_putBehind σ (σ 34 v2)) fun s1 _ =>
  ga (v2 + 1) fun a2 =>
  rec s1 a2)
  else
  (k1 σ)
set_option maxHeartbeats 4000000 in
theorem wl_He_startRow_28 {X : gX} (C : gC gctC prog_4_method_13_code kR2 3 2 42 (none) X) {p1 : Int} {k1 : gM → gO} (hk1 : ∀ (σ : gM), GG gctC X 50 [(0, .inr (.inr 28)), (1, .inl p1)] [] σ (k1 σ)) : ∀ (n : Nat) (σ : gM) (a0 : Int), GG gctC X 28 [(0, .inr (.inr 28)), (1, .inl p1), (2, .inl a0)] [] σ (gl1 (l_He_startRow_28 k1 p1) n σ a0) := by
  refine gl1_run (P := fun σ a0 o => GG gctC X 28 [(0, .inr (.inr 28)), (1, .inl p1), (2, .inl a0)] [] σ o) (fun _ _ => g_none) (fun rec hrec σ v2 => ?_)
  unfold l_He_startRow_28
  refine g_iload_n C D_He_startRow_28 rfl 2 rfl ?_
  refine g_bipush C D_He_startRow_29 (by decide) ⟨by decide, by decide⟩ ?_
  refine g_icmp_ge (tgt := 50) C D_He_startRow_31 (by decide) ?_ ?_
  · refine g_sub [0, 1] rfl ?_
    exact hk1 _
  · refine g_aload_n C D_He_startRow_34 rfl 0 rfl ?_
    refine g_aload_n C D_He_startRow_35 rfl 0 rfl ?_
    refine g_getr (ci := 2) C 5 rfl kI2 rfl (by decide) rfl rfl wf_2_28 D_He_startRow_36 ?_
    refine g_iload_n C D_He_startRow_39 rfl 2 rfl ?_
    refine g_iald C rfl rfl rfl D_He_startRow_40 ?_
    refine g_callVv (ci := 2) C [.inl (σ 34 v2)] [] rfl rfl (fun _ h1 h2 h3 => c_He_putBehind h1 h2 h3) rfl rfl wc_2_89 (by decide) (Nat.le_of_ble_eq_true rfl) D_He_startRow_41 (fun s1 _ => ?_)
    refine g_iinc (t := 2) (L' := fun z => [(2, .inl z), (0, .inr (.inr 28)), (1, .inl p1)]) C D_He_startRow_44 rfl (by decide) (fun _ => rfl) (fun a2 => ?_)
    refine g_goto (tgt := 28) C D_He_startRow_47 (by decide) ?_
    refine g_sub [1, 2, 0] rfl ?_
    exact hrec _ _
def j_He_startRow_79 (rec : gM → Int → gO) (σ : gM) (v2 : Int) : gO :=
  ga (v2 + 1) fun a1 =>
  rec σ a1
set_option maxHeartbeats 4000000 in
theorem wj_He_startRow_79 {X : gX} (C : gC gctC prog_4_method_13_code kR2 3 2 42 (none) X) {rec : gM → Int → gO} (hrec : ∀ (σ : gM) (a0 : Int), GG gctC X 58 [(0, .inr (.inr 28)), (2, .inl a0)] [] σ (rec σ a0)) (σ : gM) (v2 : Int) : GG gctC X 79 [(0, .inr (.inr 28)), (2, .inl v2)] [] σ (j_He_startRow_79 rec σ v2) := by
  unfold j_He_startRow_79
  refine g_iinc (t := 1) (L' := fun z => [(2, .inl z), (0, .inr (.inr 28))]) C D_He_startRow_79 rfl (by decide) (fun _ => rfl) (fun a1 => ?_)
  refine g_goto (tgt := 58) C D_He_startRow_82 (by decide) ?_
  refine g_sub [1, 0] rfl ?_
  exact hrec _ _
def l_He_startRow_58 (rec : gM → Int → gO) (σ : gM) (v2 : Int) : gO :=
  if v2 < 40 then
  (gi v2 40 <|
  if (σ 31 v2) < 2 then
  (j_He_startRow_79 rec σ v2)
  else
  (gk (F_He_putBehind σ v2) fun s1 _ =>
  j_He_startRow_79 rec s1 v2))
  else
  (some (σ, 0))
set_option maxHeartbeats 4000000 in
theorem wl_He_startRow_58 {X : gX} (C : gC gctC prog_4_method_13_code kR2 3 2 42 (none) X) : ∀ (n : Nat) (σ : gM) (a0 : Int), GG gctC X 58 [(0, .inr (.inr 28)), (2, .inl a0)] [] σ (gl1 (l_He_startRow_58) n σ a0) := by
  refine gl1_run (P := fun σ a0 o => GG gctC X 58 [(0, .inr (.inr 28)), (2, .inl a0)] [] σ o) (fun _ _ => g_none) (fun rec hrec σ v2 => ?_)
  unfold l_He_startRow_58
  refine g_iload_n C D_He_startRow_58 rfl 1 rfl ?_
  refine g_bipush C D_He_startRow_59 (by decide) ⟨by decide, by decide⟩ ?_
  refine g_icmp_ge (tgt := 85) C D_He_startRow_61 (by decide) ?_ ?_
  · exact g_vret C D_He_startRow_85
  · refine g_aload_n C D_He_startRow_64 rfl 0 rfl ?_
    refine g_getr (ci := 2) C 2 rfl kI2 rfl (by decide) rfl rfl wf_2_18 D_He_startRow_65 ?_
    refine g_iload_n C D_He_startRow_68 rfl 1 rfl ?_
    refine g_iald C rfl rfl rfl D_He_startRow_69 ?_
    refine g_iconst C D_He_startRow_70 ⟨by decide, by decide⟩ ?_
    refine g_icmp_lt (tgt := 79) C D_He_startRow_71 (by decide) ?_ ?_
    · exact wj_He_startRow_79 C hrec _ _
    · refine g_aload_n C D_He_startRow_74 rfl 0 rfl ?_
      refine g_iload_n C D_He_startRow_75 rfl 1 rfl ?_
      refine g_callVv (ci := 2) C [.inl v2] [] rfl rfl (fun _ h1 h2 h3 => c_He_putBehind h1 h2 h3) rfl rfl wc_2_89 (by decide) (Nat.le_of_ble_eq_true rfl) D_He_startRow_76 (fun s1 _ => ?_)
      exact wj_He_startRow_79 C hrec _ _
def F_He_startRow (σ : gM) (v1 : Int) : gO :=
  gp σ 28 9 0 fun s1 =>
  gl1 (l_He_startRow_7 (fun s2 => gl1 (l_He_startRow_28 (fun s3 => if v1 = 2 then
  (gl1 (l_He_startRow_58) 200 s3 0)
  else
  (some (s3, 0))) v1) 200 s2 0) v1) 200 s1 0
set_option maxHeartbeats 4000000 in
theorem w_He_startRow {X : gX} (C : gC gctC prog_4_method_13_code kR2 3 2 42 (none) X) (σ : gM) (v1 : Int) : GG gctC X 0 [(0, .inr (.inr 28)), (1, .inl v1)] [] σ (F_He_startRow σ v1) := by
  unfold F_He_startRow
  refine g_aload_n C D_He_startRow_0 rfl 0 rfl ?_
  refine g_iconst C D_He_startRow_1 ⟨by decide, by decide⟩ ?_
  refine g_putI (ci := 2) C 9 (jz := 9) rfl rfl kI2 kO2 kN2 rfl (by decide) rfl rfl wf_2_99 D_He_startRow_2 (fun s1 => ?_)
  refine g_iconst C D_He_startRow_5 ⟨by decide, by decide⟩ ?_
  refine g_istore_n (L' := [(2, .inl 0), (0, .inr (.inr 28)), (1, .inl v1)]) C D_He_startRow_6 rfl (by decide) rfl ?_
  refine g_sub [1, 2, 0] rfl ?_
  exact wl_He_startRow_7 C (fun s2 => by
      refine g_iconst C D_He_startRow_26 ⟨by decide, by decide⟩ ?_
      refine g_istore_n (L' := [(2, .inl 0), (0, .inr (.inr 28)), (1, .inl v1)]) C D_He_startRow_27 rfl (by decide) rfl ?_
      refine g_sub [1, 2, 0] rfl ?_
      exact wl_He_startRow_28 C (fun s3 => by
          refine g_iload_n C D_He_startRow_50 rfl 1 rfl ?_
          refine g_iconst C D_He_startRow_51 ⟨by decide, by decide⟩ ?_
          refine g_icmp_eq (tgt := 56) C D_He_startRow_52 (by decide) ?_ ?_
          · refine g_iconst C D_He_startRow_56 ⟨by decide, by decide⟩ ?_
            refine g_istore_n (L' := [(2, .inl 0), (0, .inr (.inr 28)), (1, .inl v1)]) C D_He_startRow_57 rfl (by decide) rfl ?_
            refine g_sub [1, 0] rfl ?_
            exact wl_He_startRow_58 C 200 _ _
          · exact g_vret C D_He_startRow_55) 200 _ _) 200 _ _
theorem c_He_startRow {σ : gM} {v1 : Int} {r : gR} (ho : F_He_startRow σ v1 = some r) (hok : gOk [.inr (.inr 28), .inl v1]) (hin : gIn gctC σ) : gCt gctC Y_He_startRow prog_4_method_13_code 3 (none) 2 42 [.inr (.inr 28), .inl v1] σ r := g_entry (by decide) rfl (Nat.le_of_ble_eq_true rfl) ho hok hin (fun X C => w_He_startRow C σ v1)
theorem D_Ru_pageAt_0 : decode prog_7_method_2_code 0 = .ok (.aload_n 0, 1) := by decide +kernel
theorem D_Ru_pageAt_1 : decode prog_7_method_2_code 1 = .ok (.getfield 11, 3) := by decide +kernel
theorem D_Ru_pageAt_4 : decode prog_7_method_2_code 4 = .ok (.aload_n 0, 1) := by decide +kernel
theorem D_Ru_pageAt_5 : decode prog_7_method_2_code 5 = .ok (.getfield 18, 3) := by decide +kernel
theorem D_Ru_pageAt_8 : decode prog_7_method_2_code 8 = .ok (.iload_n 1, 1) := by decide +kernel
theorem D_Ru_pageAt_9 : decode prog_7_method_2_code 9 = .ok (.iadd, 1) := by decide +kernel
theorem D_Ru_pageAt_10 : decode prog_7_method_2_code 10 = .ok (.bipush 100, 2) := by decide +kernel
theorem D_Ru_pageAt_12 : decode prog_7_method_2_code 12 = .ok (.irem, 1) := by decide +kernel
theorem D_Ru_pageAt_13 : decode prog_7_method_2_code 13 = .ok (.iaload, 1) := by decide +kernel
theorem D_Ru_pageAt_14 : decode prog_7_method_2_code 14 = .ok (.ireturn, 1) := by decide +kernel
def F_Ru_pageAt (σ : gM) (v1 : Int) : gO :=
  ga ((σ 20 1) + v1) fun a1 =>
  gd a1 100 <|
  gi (a1 % 100) 100 <|
  some (σ, (σ 21 (a1 % 100)))
set_option maxHeartbeats 4000000 in
theorem w_Ru_pageAt {X : gX} (C : gC gctC prog_7_method_2_code kR5 2 0 0 (some .int) X) (σ : gM) (v1 : Int) : GG gctC X 0 [(0, .inr (.inr 20)), (1, .inl v1)] [] σ (F_Ru_pageAt σ v1) := by
  unfold F_Ru_pageAt
  refine g_aload_n C D_Ru_pageAt_0 rfl 0 rfl ?_
  refine g_getr (ci := 5) C 0 rfl kI5 rfl (by decide) rfl rfl wf_5_11 D_Ru_pageAt_1 ?_
  refine g_aload_n C D_Ru_pageAt_4 rfl 0 rfl ?_
  refine g_get (ci := 5) C 1 (jz := 1) rfl rfl kI5 rfl (by decide) rfl rfl wf_5_18 rfl D_Ru_pageAt_5 ?_
  refine g_iload_n C D_Ru_pageAt_8 rfl 1 rfl ?_
  refine g_iadd C D_Ru_pageAt_9 (fun a1 => ?_)
  refine g_bipush C D_Ru_pageAt_10 (by decide) ⟨by decide, by decide⟩ ?_
  refine g_irem C D_Ru_pageAt_12 ?_
  refine g_iald C rfl rfl rfl D_Ru_pageAt_13 ?_
  exact g_iret C D_Ru_pageAt_14
theorem c_Ru_pageAt {σ : gM} {v1 : Int} {r : gR} (ho : F_Ru_pageAt σ v1 = some r) (hok : gOk [.inr (.inr 20), .inl v1]) (hin : gIn gctC σ) : gCt gctC Y_Ru_pageAt prog_7_method_2_code 2 (some .int) 0 0 [.inr (.inr 20), .inl v1] σ r := g_entry (by decide) rfl (Nat.le_of_ble_eq_true rfl) ho hok hin (fun X C => w_Ru_pageAt C σ v1)
theorem D_Ru_append_0 : decode prog_7_method_3_code 0 = .ok (.aload_n 0, 1) := by decide +kernel
theorem D_Ru_append_1 : decode prog_7_method_3_code 1 = .ok (.getfield 22, 3) := by decide +kernel
theorem D_Ru_append_4 : decode prog_7_method_3_code 4 = .ok (.ifCond .le 18, 3) := by decide +kernel
theorem D_Ru_append_7 : decode prog_7_method_3_code 7 = .ok (.aload_n 0, 1) := by decide +kernel
theorem D_Ru_append_8 : decode prog_7_method_3_code 8 = .ok (.aload_n 0, 1) := by decide +kernel
theorem D_Ru_append_9 : decode prog_7_method_3_code 9 = .ok (.getfield 22, 3) := by decide +kernel
theorem D_Ru_append_12 : decode prog_7_method_3_code 12 = .ok (.iconst 1, 1) := by decide +kernel
theorem D_Ru_append_13 : decode prog_7_method_3_code 13 = .ok (.isub, 1) := by decide +kernel
theorem D_Ru_append_14 : decode prog_7_method_3_code 14 = .ok (.invokevirtual 25, 3) := by decide +kernel
theorem D_Ru_append_17 : decode prog_7_method_3_code 17 = .ok (.iload_n 1, 1) := by decide +kernel
theorem D_Ru_append_18 : decode prog_7_method_3_code 18 = .ok (.if_icmp .ne 4, 3) := by decide +kernel
theorem D_Ru_append_21 : decode prog_7_method_3_code 21 = .ok (.return_, 1) := by decide +kernel
theorem D_Ru_append_22 : decode prog_7_method_3_code 22 = .ok (.aload_n 0, 1) := by decide +kernel
theorem D_Ru_append_23 : decode prog_7_method_3_code 23 = .ok (.getfield 11, 3) := by decide +kernel
theorem D_Ru_append_26 : decode prog_7_method_3_code 26 = .ok (.aload_n 0, 1) := by decide +kernel
theorem D_Ru_append_27 : decode prog_7_method_3_code 27 = .ok (.getfield 18, 3) := by decide +kernel
theorem D_Ru_append_30 : decode prog_7_method_3_code 30 = .ok (.aload_n 0, 1) := by decide +kernel
theorem D_Ru_append_31 : decode prog_7_method_3_code 31 = .ok (.getfield 22, 3) := by decide +kernel
theorem D_Ru_append_34 : decode prog_7_method_3_code 34 = .ok (.iadd, 1) := by decide +kernel
theorem D_Ru_append_35 : decode prog_7_method_3_code 35 = .ok (.bipush 100, 2) := by decide +kernel
theorem D_Ru_append_37 : decode prog_7_method_3_code 37 = .ok (.irem, 1) := by decide +kernel
theorem D_Ru_append_38 : decode prog_7_method_3_code 38 = .ok (.iload_n 1, 1) := by decide +kernel
theorem D_Ru_append_39 : decode prog_7_method_3_code 39 = .ok (.iastore, 1) := by decide +kernel
theorem D_Ru_append_40 : decode prog_7_method_3_code 40 = .ok (.aload_n 0, 1) := by decide +kernel
theorem D_Ru_append_41 : decode prog_7_method_3_code 41 = .ok (.getfield 22, 3) := by decide +kernel
theorem D_Ru_append_44 : decode prog_7_method_3_code 44 = .ok (.bipush 100, 2) := by decide +kernel
theorem D_Ru_append_46 : decode prog_7_method_3_code 46 = .ok (.if_icmp .ge 16, 3) := by decide +kernel
theorem D_Ru_append_49 : decode prog_7_method_3_code 49 = .ok (.aload_n 0, 1) := by decide +kernel
theorem D_Ru_append_50 : decode prog_7_method_3_code 50 = .ok (.dup, 1) := by decide +kernel
theorem D_Ru_append_51 : decode prog_7_method_3_code 51 = .ok (.getfield 22, 3) := by decide +kernel
theorem D_Ru_append_54 : decode prog_7_method_3_code 54 = .ok (.iconst 1, 1) := by decide +kernel
theorem D_Ru_append_55 : decode prog_7_method_3_code 55 = .ok (.iadd, 1) := by decide +kernel
theorem D_Ru_append_56 : decode prog_7_method_3_code 56 = .ok (.putfield 22, 3) := by decide +kernel
theorem D_Ru_append_59 : decode prog_7_method_3_code 59 = .ok (.goto 16, 3) := by decide +kernel
theorem D_Ru_append_62 : decode prog_7_method_3_code 62 = .ok (.aload_n 0, 1) := by decide +kernel
theorem D_Ru_append_63 : decode prog_7_method_3_code 63 = .ok (.aload_n 0, 1) := by decide +kernel
theorem D_Ru_append_64 : decode prog_7_method_3_code 64 = .ok (.getfield 18, 3) := by decide +kernel
theorem D_Ru_append_67 : decode prog_7_method_3_code 67 = .ok (.iconst 1, 1) := by decide +kernel
theorem D_Ru_append_68 : decode prog_7_method_3_code 68 = .ok (.iadd, 1) := by decide +kernel
theorem D_Ru_append_69 : decode prog_7_method_3_code 69 = .ok (.bipush 100, 2) := by decide +kernel
theorem D_Ru_append_71 : decode prog_7_method_3_code 71 = .ok (.irem, 1) := by decide +kernel
theorem D_Ru_append_72 : decode prog_7_method_3_code 72 = .ok (.putfield 18, 3) := by decide +kernel
theorem D_Ru_append_75 : decode prog_7_method_3_code 75 = .ok (.return_, 1) := by decide +kernel
def j_Ru_append_75 (σ : gM) : gO :=
  some (σ, 0)
set_option maxHeartbeats 4000000 in
theorem wj_Ru_append_75 {X : gX} (C : gC gctC prog_7_method_3_code kR5 2 1 21 (none) X) (σ : gM) : GG gctC X 75 [] [] σ (j_Ru_append_75 σ) := by
  unfold j_Ru_append_75
  exact g_vret C D_Ru_append_75
def j_Ru_append_22 (σ : gM) (v1 : Int) : gO :=
  ga ((σ 20 1) + (σ 20 2)) fun a1 =>
  gd a1 100 <|
  gw σ 21 100 (a1 % 100) v1 fun s2 =>
  if (s2 20 2) < 100 then
  (ga ((s2 20 2) + 1) fun a5 =>
  gp s2 20 2 a5 fun s6 =>
  j_Ru_append_75 s6)
  else
  (ga ((s2 20 1) + 1) fun a3 =>
  gd a3 100 <|
  gp s2 20 1 (a3 % 100) fun s4 =>
  j_Ru_append_75 s4)
set_option maxHeartbeats 4000000 in
theorem wj_Ru_append_22 {X : gX} (C : gC gctC prog_7_method_3_code kR5 2 1 21 (none) X) (σ : gM) (v1 : Int) : GG gctC X 22 [(0, .inr (.inr 20)), (1, .inl v1)] [] σ (j_Ru_append_22 σ v1) := by
  unfold j_Ru_append_22
  refine g_aload_n C D_Ru_append_22 rfl 0 rfl ?_
  refine g_getr (ci := 5) C 0 rfl kI5 rfl (by decide) rfl rfl wf_5_11 D_Ru_append_23 ?_
  refine g_aload_n C D_Ru_append_26 rfl 0 rfl ?_
  refine g_get (ci := 5) C 1 (jz := 1) rfl rfl kI5 rfl (by decide) rfl rfl wf_5_18 rfl D_Ru_append_27 ?_
  refine g_aload_n C D_Ru_append_30 rfl 0 rfl ?_
  refine g_get (ci := 5) C 2 (jz := 2) rfl rfl kI5 rfl (by decide) rfl rfl wf_5_22 rfl D_Ru_append_31 ?_
  refine g_iadd C D_Ru_append_34 (fun a1 => ?_)
  refine g_bipush C D_Ru_append_35 (by decide) ⟨by decide, by decide⟩ ?_
  refine g_irem C D_Ru_append_37 ?_
  refine g_iload_n C D_Ru_append_38 rfl 1 rfl ?_
  refine g_iast C rfl rfl D_Ru_append_39 (fun s2 => ?_)
  refine g_aload_n C D_Ru_append_40 rfl 0 rfl ?_
  refine g_get (ci := 5) C 2 (jz := 2) rfl rfl kI5 rfl (by decide) rfl rfl wf_5_22 rfl D_Ru_append_41 ?_
  refine g_bipush C D_Ru_append_44 (by decide) ⟨by decide, by decide⟩ ?_
  refine g_icmp_ge (tgt := 62) C D_Ru_append_46 (by decide) ?_ ?_
  · refine g_aload_n C D_Ru_append_62 rfl 0 rfl ?_
    refine g_aload_n C D_Ru_append_63 rfl 0 rfl ?_
    refine g_get (ci := 5) C 1 (jz := 1) rfl rfl kI5 rfl (by decide) rfl rfl wf_5_18 rfl D_Ru_append_64 ?_
    refine g_iconst C D_Ru_append_67 ⟨by decide, by decide⟩ ?_
    refine g_iadd C D_Ru_append_68 (fun a3 => ?_)
    refine g_bipush C D_Ru_append_69 (by decide) ⟨by decide, by decide⟩ ?_
    refine g_irem C D_Ru_append_71 ?_
    refine g_putI (ci := 5) C 1 (jz := 1) rfl rfl kI5 kO5 kN5 rfl (by decide) rfl rfl wf_5_18 D_Ru_append_72 (fun s4 => ?_)
    refine g_sub [] rfl ?_
    exact wj_Ru_append_75 C _
  · refine g_aload_n C D_Ru_append_49 rfl 0 rfl ?_
    refine g_dup C D_Ru_append_50 rfl ?_
    refine g_get (ci := 5) C 2 (jz := 2) rfl rfl kI5 rfl (by decide) rfl rfl wf_5_22 rfl D_Ru_append_51 ?_
    refine g_iconst C D_Ru_append_54 ⟨by decide, by decide⟩ ?_
    refine g_iadd C D_Ru_append_55 (fun a5 => ?_)
    refine g_putI (ci := 5) C 2 (jz := 2) rfl rfl kI5 kO5 kN5 rfl (by decide) rfl rfl wf_5_22 D_Ru_append_56 (fun s6 => ?_)
    refine g_goto (tgt := 75) C D_Ru_append_59 (by decide) ?_
    refine g_sub [] rfl ?_
    exact wj_Ru_append_75 C _
def F_Ru_append (σ : gM) (v1 : Int) : gO :=
  if 0 < (σ 20 2) then
  (ga ((σ 20 2) - 1) fun a1 =>
  gk (F_Ru_pageAt σ a1) fun s2 a3 =>
  if a3 = v1 then
  (some (s2, 0))
  else
  (j_Ru_append_22 s2 v1))
  else
  (j_Ru_append_22 σ v1)
set_option maxHeartbeats 4000000 in
theorem w_Ru_append {X : gX} (C : gC gctC prog_7_method_3_code kR5 2 1 21 (none) X) (σ : gM) (v1 : Int) : GG gctC X 0 [(0, .inr (.inr 20)), (1, .inl v1)] [] σ (F_Ru_append σ v1) := by
  unfold F_Ru_append
  refine g_aload_n C D_Ru_append_0 rfl 0 rfl ?_
  refine g_get (ci := 5) C 2 (jz := 2) rfl rfl kI5 rfl (by decide) rfl rfl wf_5_22 rfl D_Ru_append_1 ?_
  refine g_if_le (tgt := 22) C D_Ru_append_4 (by decide) ?_ ?_
  · exact wj_Ru_append_22 C _ _
  · refine g_aload_n C D_Ru_append_7 rfl 0 rfl ?_
    refine g_aload_n C D_Ru_append_8 rfl 0 rfl ?_
    refine g_get (ci := 5) C 2 (jz := 2) rfl rfl kI5 rfl (by decide) rfl rfl wf_5_22 rfl D_Ru_append_9 ?_
    refine g_iconst C D_Ru_append_12 ⟨by decide, by decide⟩ ?_
    refine g_isub C D_Ru_append_13 (fun a1 => ?_)
    refine g_callVi (ci := 5) C [.inl a1] [] (Or.inl rfl) rfl (fun _ h1 h2 h3 => c_Ru_pageAt h1 h2 h3) rfl rfl wc_5_25 (by decide) (Nat.le_of_ble_eq_true rfl) D_Ru_append_14 (fun s2 a3 => ?_)
    refine g_iload_n C D_Ru_append_17 rfl 1 rfl ?_
    refine g_icmp_ne (tgt := 22) C D_Ru_append_18 (by decide) ?_ ?_
    · exact wj_Ru_append_22 C _ _
    · exact g_vret C D_Ru_append_21
theorem c_Ru_append {σ : gM} {v1 : Int} {r : gR} (ho : F_Ru_append σ v1 = some r) (hok : gOk [.inr (.inr 20), .inl v1]) (hin : gIn gctC σ) : gCt gctC Y_Ru_append prog_7_method_3_code 2 (none) 1 21 [.inr (.inr 20), .inl v1] σ r := g_entry (by decide) rfl (Nat.le_of_ble_eq_true rfl) ho hok hin (fun X C => w_Ru_append C σ v1)
theorem D_Me_handStops_0 : decode prog_6_method_5_code 0 = .ok (.aload_n 0, 1) := by decide +kernel
theorem D_Me_handStops_1 : decode prog_6_method_5_code 1 = .ok (.getfield 93, 3) := by decide +kernel
theorem D_Me_handStops_4 : decode prog_6_method_5_code 4 = .ok (.istore_n 1, 1) := by decide +kernel
theorem D_Me_handStops_5 : decode prog_6_method_5_code 5 = .ok (.iconst 0, 1) := by decide +kernel
theorem D_Me_handStops_6 : decode prog_6_method_5_code 6 = .ok (.istore_n 2, 1) := by decide +kernel
theorem D_Me_handStops_7 : decode prog_6_method_5_code 7 = .ok (.iload_n 2, 1) := by decide +kernel
theorem D_Me_handStops_8 : decode prog_6_method_5_code 8 = .ok (.aload_n 0, 1) := by decide +kernel
theorem D_Me_handStops_9 : decode prog_6_method_5_code 9 = .ok (.getfield 9, 3) := by decide +kernel
theorem D_Me_handStops_12 : decode prog_6_method_5_code 12 = .ok (.if_icmp .gt 54, 3) := by decide +kernel
theorem D_Me_handStops_15 : decode prog_6_method_5_code 15 = .ok (.aload_n 0, 1) := by decide +kernel
theorem D_Me_handStops_16 : decode prog_6_method_5_code 16 = .ok (.getfield 93, 3) := by decide +kernel
theorem D_Me_handStops_19 : decode prog_6_method_5_code 19 = .ok (.istore_n 1, 1) := by decide +kernel
theorem D_Me_handStops_20 : decode prog_6_method_5_code 20 = .ok (.aload_n 0, 1) := by decide +kernel
theorem D_Me_handStops_21 : decode prog_6_method_5_code 21 = .ok (.iload_n 1, 1) := by decide +kernel
theorem D_Me_handStops_22 : decode prog_6_method_5_code 22 = .ok (.iconst 1, 1) := by decide +kernel
theorem D_Me_handStops_23 : decode prog_6_method_5_code 23 = .ok (.iadd, 1) := by decide +kernel
theorem D_Me_handStops_24 : decode prog_6_method_5_code 24 = .ok (.aload_n 0, 1) := by decide +kernel
theorem D_Me_handStops_25 : decode prog_6_method_5_code 25 = .ok (.getfield 9, 3) := by decide +kernel
theorem D_Me_handStops_28 : decode prog_6_method_5_code 28 = .ok (.if_icmp .ge 9, 3) := by decide +kernel
theorem D_Me_handStops_31 : decode prog_6_method_5_code 31 = .ok (.iload_n 1, 1) := by decide +kernel
theorem D_Me_handStops_32 : decode prog_6_method_5_code 32 = .ok (.iconst 1, 1) := by decide +kernel
theorem D_Me_handStops_33 : decode prog_6_method_5_code 33 = .ok (.iadd, 1) := by decide +kernel
theorem D_Me_handStops_34 : decode prog_6_method_5_code 34 = .ok (.goto 4, 3) := by decide +kernel
theorem D_Me_handStops_37 : decode prog_6_method_5_code 37 = .ok (.iconst 0, 1) := by decide +kernel
theorem D_Me_handStops_38 : decode prog_6_method_5_code 38 = .ok (.putfield 93, 3) := by decide +kernel
theorem D_Me_handStops_41 : decode prog_6_method_5_code 41 = .ok (.aload_n 0, 1) := by decide +kernel
theorem D_Me_handStops_42 : decode prog_6_method_5_code 42 = .ok (.getfield 39, 3) := by decide +kernel
theorem D_Me_handStops_45 : decode prog_6_method_5_code 45 = .ok (.iload_n 1, 1) := by decide +kernel
theorem D_Me_handStops_46 : decode prog_6_method_5_code 46 = .ok (.baload, 1) := by decide +kernel
theorem D_Me_handStops_47 : decode prog_6_method_5_code 47 = .ok (.ifCond .ne 6, 3) := by decide +kernel
theorem D_Me_handStops_50 : decode prog_6_method_5_code 50 = .ok (.goto 16, 3) := by decide +kernel
theorem D_Me_handStops_53 : decode prog_6_method_5_code 53 = .ok (.aload_n 0, 1) := by decide +kernel
theorem D_Me_handStops_54 : decode prog_6_method_5_code 54 = .ok (.getfield 39, 3) := by decide +kernel
theorem D_Me_handStops_57 : decode prog_6_method_5_code 57 = .ok (.iload_n 1, 1) := by decide +kernel
theorem D_Me_handStops_58 : decode prog_6_method_5_code 58 = .ok (.iconst 0, 1) := by decide +kernel
theorem D_Me_handStops_59 : decode prog_6_method_5_code 59 = .ok (.bastore, 1) := by decide +kernel
theorem D_Me_handStops_60 : decode prog_6_method_5_code 60 = .ok (.iinc 2 1, 3) := by decide +kernel
theorem D_Me_handStops_63 : decode prog_6_method_5_code 63 = .ok (.goto (-56), 3) := by decide +kernel
theorem D_Me_handStops_66 : decode prog_6_method_5_code 66 = .ok (.iload_n 1, 1) := by decide +kernel
theorem D_Me_handStops_67 : decode prog_6_method_5_code 67 = .ok (.ireturn, 1) := by decide +kernel
def j_Me_handStops_38_17 (k1 : gM → Int → gO) (k2 : gM → Int → gO) (rec : gM → Int → Int → gO) (σ : gM) (v1 v2 t0 : Int) : gO :=
  gp σ 17 4 t0 fun s1 =>
  gi v1 16 <|
  if (s1 26 v1) = 0 then
  (k1 s1 v1)
  else
  (gwb s1 26 16 v1 0 fun s2 =>
  ga (v2 + 1) fun a3 =>
  rec s2 v1 a3)
set_option maxHeartbeats 4000000 in
theorem wj_Me_handStops_38_17 {X : gX} (C : gC gctC prog_6_method_5_code kR4 3 0 0 (some .int) X) {k1 : gM → Int → gO} (hk1 : ∀ (σ : gM) (a0 : Int), GG gctC X 50 [(1, .inl a0)] [] σ (k1 σ a0)) {k2 : gM → Int → gO} (hk2 : ∀ (σ : gM) (a0 : Int), GG gctC X 66 [(1, .inl a0)] [] σ (k2 σ a0)) {rec : gM → Int → Int → gO} (hrec : ∀ (σ : gM) (a0 a1 : Int), GG gctC X 7 [(0, .inr (.inr 17)), (1, .inl a0), (2, .inl a1)] [] σ (rec σ a0 a1)) (σ : gM) (v1 v2 t0 : Int) : GG gctC X 38 [(0, .inr (.inr 17)), (1, .inl v1), (2, .inl v2)] [.inl t0, .inr (.inr 17)] σ (j_Me_handStops_38_17 k1 k2 rec σ v1 v2 t0) := by
  unfold j_Me_handStops_38_17
  refine g_putI (ci := 4) C 4 (jz := 4) rfl rfl kI4 kO4 kN4 rfl (by decide) rfl rfl wf_4_93 D_Me_handStops_38 (fun s1 => ?_)
  refine g_aload_n C D_Me_handStops_41 rfl 0 rfl ?_
  refine g_getr (ci := 4) C 9 rfl kI4 rfl (by decide) rfl rfl wf_4_39 D_Me_handStops_42 ?_
  refine g_iload_n C D_Me_handStops_45 rfl 1 rfl ?_
  refine g_zald C rfl rfl rfl D_Me_handStops_46 ?_
  refine g_if_ne (tgt := 53) C D_Me_handStops_47 (by decide) ?_ ?_
  · refine g_aload_n C D_Me_handStops_53 rfl 0 rfl ?_
    refine g_getr (ci := 4) C 9 rfl kI4 rfl (by decide) rfl rfl wf_4_39 D_Me_handStops_54 ?_
    refine g_iload_n C D_Me_handStops_57 rfl 1 rfl ?_
    refine g_iconst C D_Me_handStops_58 ⟨by decide, by decide⟩ ?_
    refine g_zast C rfl rfl D_Me_handStops_59 (fun s2 => ?_)
    refine g_iinc (t := 2) (L' := fun z => [(2, .inl z), (0, .inr (.inr 17)), (1, .inl v1)]) C D_Me_handStops_60 rfl (by decide) (fun _ => rfl) (fun a3 => ?_)
    refine g_goto (tgt := 7) C D_Me_handStops_63 (by decide) ?_
    refine g_sub [1, 2, 0] rfl ?_
    exact hrec _ _ _
  · refine g_sub [1] rfl ?_
    exact hk1 _ _
def l_Me_handStops_7 (k1 : gM → Int → gO) (k2 : gM → Int → gO) (rec : gM → Int → Int → gO) (σ : gM) (v1 v2 : Int) : gO :=
  if (σ 17 0) < v2 then
  (k2 σ v1)
  else
  (gv (σ 17 4) fun a1 =>
  ga (a1 + 1) fun a2 =>
  if a2 < (σ 17 0) then
  (ga (a1 + 1) fun a3 =>
  j_Me_handStops_38_17 k1 k2 rec σ a1 v2 a3)
  else
  (j_Me_handStops_38_17 k1 k2 rec σ a1 v2 0))
set_option maxHeartbeats 4000000 in
theorem wl_Me_handStops_7 {X : gX} (C : gC gctC prog_6_method_5_code kR4 3 0 0 (some .int) X) {k1 : gM → Int → gO} (hk1 : ∀ (σ : gM) (a0 : Int), GG gctC X 50 [(1, .inl a0)] [] σ (k1 σ a0)) {k2 : gM → Int → gO} (hk2 : ∀ (σ : gM) (a0 : Int), GG gctC X 66 [(1, .inl a0)] [] σ (k2 σ a0)) : ∀ (n : Nat) (σ : gM) (a0 a1 : Int), GG gctC X 7 [(0, .inr (.inr 17)), (1, .inl a0), (2, .inl a1)] [] σ (gl2 (l_Me_handStops_7 k1 k2) n σ a0 a1) := by
  refine gl2_run (P := fun σ a0 a1 o => GG gctC X 7 [(0, .inr (.inr 17)), (1, .inl a0), (2, .inl a1)] [] σ o) (fun _ _ _ => g_none) (fun rec hrec σ v1 v2 => ?_)
  unfold l_Me_handStops_7
  refine g_iload_n C D_Me_handStops_7 rfl 2 rfl ?_
  refine g_aload_n C D_Me_handStops_8 rfl 0 rfl ?_
  refine g_get (ci := 4) C 0 (jz := 0) rfl rfl kI4 rfl (by decide) rfl rfl wf_4_9 rfl D_Me_handStops_9 ?_
  refine g_icmp_gt (tgt := 66) C D_Me_handStops_12 (by decide) ?_ ?_
  · refine g_sub [1] rfl ?_
    exact hk2 _ _
  · refine g_aload_n C D_Me_handStops_15 rfl 0 rfl ?_
    refine g_get (ci := 4) C 4 (jz := 4) rfl rfl kI4 rfl (by decide) rfl rfl wf_4_93 rfl D_Me_handStops_16 ?_
    refine g_let C (fun a1 => ?_)
    refine g_istore_n (L' := [(1, .inl a1), (0, .inr (.inr 17)), (2, .inl v2)]) C D_Me_handStops_19 rfl (by decide) rfl ?_
    refine g_aload_n C D_Me_handStops_20 rfl 1 rfl ?_
    refine g_iload_n C D_Me_handStops_21 rfl 0 rfl ?_
    refine g_iconst C D_Me_handStops_22 ⟨by decide, by decide⟩ ?_
    refine g_iadd C D_Me_handStops_23 (fun a2 => ?_)
    refine g_aload_n C D_Me_handStops_24 rfl 1 rfl ?_
    refine g_get (ci := 4) C 0 (jz := 0) rfl rfl kI4 rfl (by decide) rfl rfl wf_4_9 rfl D_Me_handStops_25 ?_
    refine g_icmp_ge (tgt := 37) C D_Me_handStops_28 (by decide) ?_ ?_
    · refine g_iconst C D_Me_handStops_37 ⟨by decide, by decide⟩ ?_
      refine g_sub [1, 0, 2] rfl ?_
      exact wj_Me_handStops_38_17 C hk1 hk2 hrec _ _ _ _
    · refine g_iload_n C D_Me_handStops_31 rfl 0 rfl ?_
      refine g_iconst C D_Me_handStops_32 ⟨by decide, by decide⟩ ?_
      refine g_iadd C D_Me_handStops_33 (fun a3 => ?_)
      refine g_goto (tgt := 38) C D_Me_handStops_34 (by decide) ?_
      refine g_sub [1, 0, 2] rfl ?_
      exact wj_Me_handStops_38_17 C hk1 hk2 hrec _ _ _ _
def j_Me_handStops_66 (σ : gM) (v1 : Int) : gO :=
  some (σ, v1)
set_option maxHeartbeats 4000000 in
theorem wj_Me_handStops_66 {X : gX} (C : gC gctC prog_6_method_5_code kR4 3 0 0 (some .int) X) (σ : gM) (v1 : Int) : GG gctC X 66 [(1, .inl v1)] [] σ (j_Me_handStops_66 σ v1) := by
  unfold j_Me_handStops_66
  refine g_iload_n C D_Me_handStops_66 rfl 0 rfl ?_
  exact g_iret C D_Me_handStops_67
def F_Me_handStops (σ : gM) : gO :=
  gv (σ 17 4) fun a1 =>
  gl2 (l_Me_handStops_7 (fun s3 b2 => j_Me_handStops_66 s3 b2) (fun s5 b4 => j_Me_handStops_66 s5 b4)) 200 σ a1 0
set_option maxHeartbeats 4000000 in
theorem w_Me_handStops {X : gX} (C : gC gctC prog_6_method_5_code kR4 3 0 0 (some .int) X) (σ : gM) : GG gctC X 0 [(0, .inr (.inr 17))] [] σ (F_Me_handStops σ) := by
  unfold F_Me_handStops
  refine g_aload_n C D_Me_handStops_0 rfl 0 rfl ?_
  refine g_get (ci := 4) C 4 (jz := 4) rfl rfl kI4 rfl (by decide) rfl rfl wf_4_93 rfl D_Me_handStops_1 ?_
  refine g_let C (fun a1 => ?_)
  refine g_istore_n (L' := [(1, .inl a1), (0, .inr (.inr 17))]) C D_Me_handStops_4 rfl (by decide) rfl ?_
  refine g_iconst C D_Me_handStops_5 ⟨by decide, by decide⟩ ?_
  refine g_istore_n (L' := [(2, .inl 0), (1, .inl a1), (0, .inr (.inr 17))]) C D_Me_handStops_6 rfl (by decide) rfl ?_
  refine g_sub [2, 1, 0] rfl ?_
  exact wl_Me_handStops_7 C (fun s3 b2 => by
      refine g_goto (tgt := 66) C D_Me_handStops_50 (by decide) ?_
      exact wj_Me_handStops_66 C _ _) (fun s5 b4 => by
      exact wj_Me_handStops_66 C _ _) 200 _ _ _
theorem c_Me_handStops {σ : gM} {r : gR} (ho : F_Me_handStops σ = some r) (hok : gOk [.inr (.inr 17)]) (hin : gIn gctC σ) : gCt gctC Y_Me_handStops prog_6_method_5_code 3 (some .int) 0 0 [.inr (.inr 17)] σ r := g_entry (by decide) rfl (Nat.le_of_ble_eq_true rfl) ho hok hin (fun X C => w_Me_handStops C σ)
theorem D_Me_earliest_0 : decode prog_6_method_4_code 0 = .ok (.iconst 0, 1) := by decide +kernel
theorem D_Me_earliest_1 : decode prog_6_method_4_code 1 = .ok (.istore_n 2, 1) := by decide +kernel
theorem D_Me_earliest_2 : decode prog_6_method_4_code 2 = .ok (.iconst 1, 1) := by decide +kernel
theorem D_Me_earliest_3 : decode prog_6_method_4_code 3 = .ok (.istore_n 3, 1) := by decide +kernel
theorem D_Me_earliest_4 : decode prog_6_method_4_code 4 = .ok (.iload_n 3, 1) := by decide +kernel
theorem D_Me_earliest_5 : decode prog_6_method_4_code 5 = .ok (.aload_n 0, 1) := by decide +kernel
theorem D_Me_earliest_6 : decode prog_6_method_4_code 6 = .ok (.getfield 9, 3) := by decide +kernel
theorem D_Me_earliest_9 : decode prog_6_method_4_code 9 = .ok (.if_icmp .ge 20, 3) := by decide +kernel
theorem D_Me_earliest_12 : decode prog_6_method_4_code 12 = .ok (.aload_n 1, 1) := by decide +kernel
theorem D_Me_earliest_13 : decode prog_6_method_4_code 13 = .ok (.iload_n 3, 1) := by decide +kernel
theorem D_Me_earliest_14 : decode prog_6_method_4_code 14 = .ok (.iaload, 1) := by decide +kernel
theorem D_Me_earliest_15 : decode prog_6_method_4_code 15 = .ok (.aload_n 1, 1) := by decide +kernel
theorem D_Me_earliest_16 : decode prog_6_method_4_code 16 = .ok (.iload_n 2, 1) := by decide +kernel
theorem D_Me_earliest_17 : decode prog_6_method_4_code 17 = .ok (.iaload, 1) := by decide +kernel
theorem D_Me_earliest_18 : decode prog_6_method_4_code 18 = .ok (.if_icmp .ge 5, 3) := by decide +kernel
theorem D_Me_earliest_21 : decode prog_6_method_4_code 21 = .ok (.iload_n 3, 1) := by decide +kernel
theorem D_Me_earliest_22 : decode prog_6_method_4_code 22 = .ok (.istore_n 2, 1) := by decide +kernel
theorem D_Me_earliest_23 : decode prog_6_method_4_code 23 = .ok (.iinc 3 1, 3) := by decide +kernel
theorem D_Me_earliest_26 : decode prog_6_method_4_code 26 = .ok (.goto (-22), 3) := by decide +kernel
theorem D_Me_earliest_29 : decode prog_6_method_4_code 29 = .ok (.iload_n 2, 1) := by decide +kernel
theorem D_Me_earliest_30 : decode prog_6_method_4_code 30 = .ok (.ireturn, 1) := by decide +kernel
def j_Me_earliest_r25_23_25 (rec : gM → Int → Int → gO) (σ : gM) (v2 v3 : Int) : gO :=
  ga (v3 + 1) fun a1 =>
  rec σ v2 a1
set_option maxHeartbeats 4000000 in
theorem wj_Me_earliest_r25_23_25 {X : gX} (C : gC gctC prog_6_method_4_code kR4 4 0 0 (some .int) X) {rec : gM → Int → Int → gO} (hrec : ∀ (σ : gM) (a0 a1 : Int), GG gctC X 4 [(0, .inr (.inr 17)), (1, .inr (.inr 25)), (2, .inl a0), (3, .inl a1)] [] σ (rec σ a0 a1)) (σ : gM) (v2 v3 : Int) : GG gctC X 23 [(0, .inr (.inr 17)), (1, .inr (.inr 25)), (2, .inl v2), (3, .inl v3)] [] σ (j_Me_earliest_r25_23_25 rec σ v2 v3) := by
  unfold j_Me_earliest_r25_23_25
  refine g_iinc (t := 3) (L' := fun z => [(3, .inl z), (0, .inr (.inr 17)), (1, .inr (.inr 25)), (2, .inl v2)]) C D_Me_earliest_23 rfl (by decide) (fun _ => rfl) (fun a1 => ?_)
  refine g_goto (tgt := 4) C D_Me_earliest_26 (by decide) ?_
  refine g_sub [1, 2, 3, 0] rfl ?_
  exact hrec _ _ _
def l_Me_earliest_r25_4_25 (rec : gM → Int → Int → gO) (σ : gM) (v2 v3 : Int) : gO :=
  if v3 < (σ 17 0) then
  (gi v3 16 <|
  gi v2 16 <|
  if (σ 25 v3) < (σ 25 v2) then
  (j_Me_earliest_r25_23_25 rec σ v3 v3)
  else
  (j_Me_earliest_r25_23_25 rec σ v2 v3))
  else
  (some (σ, v2))
set_option maxHeartbeats 4000000 in
theorem wl_Me_earliest_r25_4_25 {X : gX} (C : gC gctC prog_6_method_4_code kR4 4 0 0 (some .int) X) : ∀ (n : Nat) (σ : gM) (a0 a1 : Int), GG gctC X 4 [(0, .inr (.inr 17)), (1, .inr (.inr 25)), (2, .inl a0), (3, .inl a1)] [] σ (gl2 (l_Me_earliest_r25_4_25) n σ a0 a1) := by
  refine gl2_run (P := fun σ a0 a1 o => GG gctC X 4 [(0, .inr (.inr 17)), (1, .inr (.inr 25)), (2, .inl a0), (3, .inl a1)] [] σ o) (fun _ _ _ => g_none) (fun rec hrec σ v2 v3 => ?_)
  unfold l_Me_earliest_r25_4_25
  refine g_iload_n C D_Me_earliest_4 rfl 3 rfl ?_
  refine g_aload_n C D_Me_earliest_5 rfl 0 rfl ?_
  refine g_get (ci := 4) C 0 (jz := 0) rfl rfl kI4 rfl (by decide) rfl rfl wf_4_9 rfl D_Me_earliest_6 ?_
  refine g_icmp_ge (tgt := 29) C D_Me_earliest_9 (by decide) ?_ ?_
  · refine g_iload_n C D_Me_earliest_29 rfl 2 rfl ?_
    exact g_iret C D_Me_earliest_30
  · refine g_aload_n C D_Me_earliest_12 rfl 1 rfl ?_
    refine g_iload_n C D_Me_earliest_13 rfl 3 rfl ?_
    refine g_iald C rfl rfl rfl D_Me_earliest_14 ?_
    refine g_aload_n C D_Me_earliest_15 rfl 1 rfl ?_
    refine g_iload_n C D_Me_earliest_16 rfl 2 rfl ?_
    refine g_iald C rfl rfl rfl D_Me_earliest_17 ?_
    refine g_icmp_ge (tgt := 23) C D_Me_earliest_18 (by decide) ?_ ?_
    · exact wj_Me_earliest_r25_23_25 C hrec _ _ _
    · refine g_iload_n C D_Me_earliest_21 rfl 3 rfl ?_
      refine g_istore_n (L' := [(2, .inl v3), (0, .inr (.inr 17)), (1, .inr (.inr 25)), (3, .inl v3)]) C D_Me_earliest_22 rfl (by decide) rfl ?_
      refine g_sub [1, 2, 0, 3] rfl ?_
      exact wj_Me_earliest_r25_23_25 C hrec _ _ _
def F_Me_earliest_r25 (σ : gM) : gO :=
  gl2 (l_Me_earliest_r25_4_25) 200 σ 0 1
set_option maxHeartbeats 4000000 in
theorem w_Me_earliest_r25 {X : gX} (C : gC gctC prog_6_method_4_code kR4 4 0 0 (some .int) X) (σ : gM) : GG gctC X 0 [(0, .inr (.inr 17)), (1, .inr (.inr 25))] [] σ (F_Me_earliest_r25 σ) := by
  unfold F_Me_earliest_r25
  refine g_iconst C D_Me_earliest_0 ⟨by decide, by decide⟩ ?_
  refine g_istore_n (L' := [(2, .inl 0), (0, .inr (.inr 17)), (1, .inr (.inr 25))]) C D_Me_earliest_1 rfl (by decide) rfl ?_
  refine g_iconst C D_Me_earliest_2 ⟨by decide, by decide⟩ ?_
  refine g_istore_n (L' := [(3, .inl 1), (2, .inl 0), (0, .inr (.inr 17)), (1, .inr (.inr 25))]) C D_Me_earliest_3 rfl (by decide) rfl ?_
  refine g_sub [2, 3, 1, 0] rfl ?_
  exact wl_Me_earliest_r25_4_25 C 200 _ _ _
theorem c_Me_earliest_r25 {σ : gM} {r : gR} (ho : F_Me_earliest_r25 σ = some r) (hok : gOk [.inr (.inr 17), .inr (.inr 25)]) (hin : gIn gctC σ) : gCt gctC Y_Me_earliest prog_6_method_4_code 4 (some .int) 0 0 [.inr (.inr 17), .inr (.inr 25)] σ r := g_entry (by decide) rfl (Nat.le_of_ble_eq_true rfl) ho hok hin (fun X C => w_Me_earliest_r25 C σ)
def j_Me_earliest_r24_23_24 (rec : gM → Int → Int → gO) (σ : gM) (v2 v3 : Int) : gO :=
  ga (v3 + 1) fun a1 =>
  rec σ v2 a1
set_option maxHeartbeats 4000000 in
theorem wj_Me_earliest_r24_23_24 {X : gX} (C : gC gctC prog_6_method_4_code kR4 4 0 0 (some .int) X) {rec : gM → Int → Int → gO} (hrec : ∀ (σ : gM) (a0 a1 : Int), GG gctC X 4 [(0, .inr (.inr 17)), (1, .inr (.inr 24)), (2, .inl a0), (3, .inl a1)] [] σ (rec σ a0 a1)) (σ : gM) (v2 v3 : Int) : GG gctC X 23 [(0, .inr (.inr 17)), (1, .inr (.inr 24)), (2, .inl v2), (3, .inl v3)] [] σ (j_Me_earliest_r24_23_24 rec σ v2 v3) := by
  unfold j_Me_earliest_r24_23_24
  refine g_iinc (t := 3) (L' := fun z => [(3, .inl z), (0, .inr (.inr 17)), (1, .inr (.inr 24)), (2, .inl v2)]) C D_Me_earliest_23 rfl (by decide) (fun _ => rfl) (fun a1 => ?_)
  refine g_goto (tgt := 4) C D_Me_earliest_26 (by decide) ?_
  refine g_sub [1, 2, 3, 0] rfl ?_
  exact hrec _ _ _
def l_Me_earliest_r24_4_24 (rec : gM → Int → Int → gO) (σ : gM) (v2 v3 : Int) : gO :=
  if v3 < (σ 17 0) then
  (gi v3 16 <|
  gi v2 16 <|
  if (σ 24 v3) < (σ 24 v2) then
  (j_Me_earliest_r24_23_24 rec σ v3 v3)
  else
  (j_Me_earliest_r24_23_24 rec σ v2 v3))
  else
  (some (σ, v2))
set_option maxHeartbeats 4000000 in
theorem wl_Me_earliest_r24_4_24 {X : gX} (C : gC gctC prog_6_method_4_code kR4 4 0 0 (some .int) X) : ∀ (n : Nat) (σ : gM) (a0 a1 : Int), GG gctC X 4 [(0, .inr (.inr 17)), (1, .inr (.inr 24)), (2, .inl a0), (3, .inl a1)] [] σ (gl2 (l_Me_earliest_r24_4_24) n σ a0 a1) := by
  refine gl2_run (P := fun σ a0 a1 o => GG gctC X 4 [(0, .inr (.inr 17)), (1, .inr (.inr 24)), (2, .inl a0), (3, .inl a1)] [] σ o) (fun _ _ _ => g_none) (fun rec hrec σ v2 v3 => ?_)
  unfold l_Me_earliest_r24_4_24
  refine g_iload_n C D_Me_earliest_4 rfl 3 rfl ?_
  refine g_aload_n C D_Me_earliest_5 rfl 0 rfl ?_
  refine g_get (ci := 4) C 0 (jz := 0) rfl rfl kI4 rfl (by decide) rfl rfl wf_4_9 rfl D_Me_earliest_6 ?_
  refine g_icmp_ge (tgt := 29) C D_Me_earliest_9 (by decide) ?_ ?_
  · refine g_iload_n C D_Me_earliest_29 rfl 2 rfl ?_
    exact g_iret C D_Me_earliest_30
  · refine g_aload_n C D_Me_earliest_12 rfl 1 rfl ?_
    refine g_iload_n C D_Me_earliest_13 rfl 3 rfl ?_
    refine g_iald C rfl rfl rfl D_Me_earliest_14 ?_
    refine g_aload_n C D_Me_earliest_15 rfl 1 rfl ?_
    refine g_iload_n C D_Me_earliest_16 rfl 2 rfl ?_
    refine g_iald C rfl rfl rfl D_Me_earliest_17 ?_
    refine g_icmp_ge (tgt := 23) C D_Me_earliest_18 (by decide) ?_ ?_
    · exact wj_Me_earliest_r24_23_24 C hrec _ _ _
    · refine g_iload_n C D_Me_earliest_21 rfl 3 rfl ?_
      refine g_istore_n (L' := [(2, .inl v3), (0, .inr (.inr 17)), (1, .inr (.inr 24)), (3, .inl v3)]) C D_Me_earliest_22 rfl (by decide) rfl ?_
      refine g_sub [1, 2, 0, 3] rfl ?_
      exact wj_Me_earliest_r24_23_24 C hrec _ _ _
def F_Me_earliest_r24 (σ : gM) : gO :=
  gl2 (l_Me_earliest_r24_4_24) 200 σ 0 1
set_option maxHeartbeats 4000000 in
theorem w_Me_earliest_r24 {X : gX} (C : gC gctC prog_6_method_4_code kR4 4 0 0 (some .int) X) (σ : gM) : GG gctC X 0 [(0, .inr (.inr 17)), (1, .inr (.inr 24))] [] σ (F_Me_earliest_r24 σ) := by
  unfold F_Me_earliest_r24
  refine g_iconst C D_Me_earliest_0 ⟨by decide, by decide⟩ ?_
  refine g_istore_n (L' := [(2, .inl 0), (0, .inr (.inr 17)), (1, .inr (.inr 24))]) C D_Me_earliest_1 rfl (by decide) rfl ?_
  refine g_iconst C D_Me_earliest_2 ⟨by decide, by decide⟩ ?_
  refine g_istore_n (L' := [(3, .inl 1), (2, .inl 0), (0, .inr (.inr 17)), (1, .inr (.inr 24))]) C D_Me_earliest_3 rfl (by decide) rfl ?_
  refine g_sub [2, 3, 1, 0] rfl ?_
  exact wl_Me_earliest_r24_4_24 C 200 _ _ _
theorem c_Me_earliest_r24 {σ : gM} {r : gR} (ho : F_Me_earliest_r24 σ = some r) (hok : gOk [.inr (.inr 17), .inr (.inr 24)]) (hin : gIn gctC σ) : gCt gctC Y_Me_earliest prog_6_method_4_code 4 (some .int) 0 0 [.inr (.inr 17), .inr (.inr 24)] σ r := g_entry (by decide) rfl (Nat.le_of_ble_eq_true rfl) ho hok hin (fun X C => w_Me_earliest_r24 C σ)
theorem D_Me_frameToFill_0 : decode prog_6_method_3_code 0 = .ok (.iconst 0, 1) := by decide +kernel
theorem D_Me_frameToFill_1 : decode prog_6_method_3_code 1 = .ok (.istore_n 1, 1) := by decide +kernel
theorem D_Me_frameToFill_2 : decode prog_6_method_3_code 2 = .ok (.iload_n 1, 1) := by decide +kernel
theorem D_Me_frameToFill_3 : decode prog_6_method_3_code 3 = .ok (.aload_n 0, 1) := by decide +kernel
theorem D_Me_frameToFill_4 : decode prog_6_method_3_code 4 = .ok (.getfield 9, 3) := by decide +kernel
theorem D_Me_frameToFill_7 : decode prog_6_method_3_code 7 = .ok (.if_icmp .ge 22, 3) := by decide +kernel
theorem D_Me_frameToFill_10 : decode prog_6_method_3_code 10 = .ok (.aload_n 0, 1) := by decide +kernel
theorem D_Me_frameToFill_11 : decode prog_6_method_3_code 11 = .ok (.getfield 30, 3) := by decide +kernel
theorem D_Me_frameToFill_14 : decode prog_6_method_3_code 14 = .ok (.iload_n 1, 1) := by decide +kernel
theorem D_Me_frameToFill_15 : decode prog_6_method_3_code 15 = .ok (.iaload, 1) := by decide +kernel
theorem D_Me_frameToFill_16 : decode prog_6_method_3_code 16 = .ok (.bipush (-4), 2) := by decide +kernel
theorem D_Me_frameToFill_18 : decode prog_6_method_3_code 18 = .ok (.if_icmp .ne 5, 3) := by decide +kernel
theorem D_Me_frameToFill_21 : decode prog_6_method_3_code 21 = .ok (.iload_n 1, 1) := by decide +kernel
theorem D_Me_frameToFill_22 : decode prog_6_method_3_code 22 = .ok (.ireturn, 1) := by decide +kernel
theorem D_Me_frameToFill_23 : decode prog_6_method_3_code 23 = .ok (.iinc 1 1, 3) := by decide +kernel
theorem D_Me_frameToFill_26 : decode prog_6_method_3_code 26 = .ok (.goto (-24), 3) := by decide +kernel
theorem D_Me_frameToFill_29 : decode prog_6_method_3_code 29 = .ok (.aload_n 0, 1) := by decide +kernel
theorem D_Me_frameToFill_30 : decode prog_6_method_3_code 30 = .ok (.getfield 57, 3) := by decide +kernel
theorem D_Me_frameToFill_33 : decode prog_6_method_3_code 33 = .ok (.iconst 2, 1) := by decide +kernel
theorem D_Me_frameToFill_34 : decode prog_6_method_3_code 34 = .ok (.iaload, 1) := by decide +kernel
theorem D_Me_frameToFill_35 : decode prog_6_method_3_code 35 = .ok (.ifCond .ne 12, 3) := by decide +kernel
theorem D_Me_frameToFill_38 : decode prog_6_method_3_code 38 = .ok (.aload_n 0, 1) := by decide +kernel
theorem D_Me_frameToFill_39 : decode prog_6_method_3_code 39 = .ok (.aload_n 0, 1) := by decide +kernel
theorem D_Me_frameToFill_40 : decode prog_6_method_3_code 40 = .ok (.getfield 33, 3) := by decide +kernel
theorem D_Me_frameToFill_43 : decode prog_6_method_3_code 43 = .ok (.invokevirtual 86, 3) := by decide +kernel
theorem D_Me_frameToFill_46 : decode prog_6_method_3_code 46 = .ok (.ireturn, 1) := by decide +kernel
theorem D_Me_frameToFill_47 : decode prog_6_method_3_code 47 = .ok (.aload_n 0, 1) := by decide +kernel
theorem D_Me_frameToFill_48 : decode prog_6_method_3_code 48 = .ok (.getfield 57, 3) := by decide +kernel
theorem D_Me_frameToFill_51 : decode prog_6_method_3_code 51 = .ok (.iconst 2, 1) := by decide +kernel
theorem D_Me_frameToFill_52 : decode prog_6_method_3_code 52 = .ok (.iaload, 1) := by decide +kernel
theorem D_Me_frameToFill_53 : decode prog_6_method_3_code 53 = .ok (.iconst 1, 1) := by decide +kernel
theorem D_Me_frameToFill_54 : decode prog_6_method_3_code 54 = .ok (.if_icmp .ne 12, 3) := by decide +kernel
theorem D_Me_frameToFill_57 : decode prog_6_method_3_code 57 = .ok (.aload_n 0, 1) := by decide +kernel
theorem D_Me_frameToFill_58 : decode prog_6_method_3_code 58 = .ok (.aload_n 0, 1) := by decide +kernel
theorem D_Me_frameToFill_59 : decode prog_6_method_3_code 59 = .ok (.getfield 36, 3) := by decide +kernel
theorem D_Me_frameToFill_62 : decode prog_6_method_3_code 62 = .ok (.invokevirtual 86, 3) := by decide +kernel
theorem D_Me_frameToFill_65 : decode prog_6_method_3_code 65 = .ok (.ireturn, 1) := by decide +kernel
theorem D_Me_frameToFill_66 : decode prog_6_method_3_code 66 = .ok (.aload_n 0, 1) := by decide +kernel
theorem D_Me_frameToFill_67 : decode prog_6_method_3_code 67 = .ok (.invokevirtual 90, 3) := by decide +kernel
theorem D_Me_frameToFill_70 : decode prog_6_method_3_code 70 = .ok (.ireturn, 1) := by decide +kernel
def l_Me_frameToFill_2 (k1 : gM → gO) (rec : gM → Int → gO) (σ : gM) (v1 : Int) : gO :=
  if v1 < (σ 17 0) then
  (gi v1 16 <|
  if (σ 23 v1) = (-4) then
  (some (σ, v1))
  else
  (ga (v1 + 1) fun a1 =>
  rec σ a1))
  else
  (k1 σ)
set_option maxHeartbeats 4000000 in
theorem wl_Me_frameToFill_2 {X : gX} (C : gC gctC prog_6_method_3_code kR4 2 1 23 (some .int) X) {k1 : gM → gO} (hk1 : ∀ (σ : gM), GG gctC X 29 [(0, .inr (.inr 17))] [] σ (k1 σ)) : ∀ (n : Nat) (σ : gM) (a0 : Int), GG gctC X 2 [(0, .inr (.inr 17)), (1, .inl a0)] [] σ (gl1 (l_Me_frameToFill_2 k1) n σ a0) := by
  refine gl1_run (P := fun σ a0 o => GG gctC X 2 [(0, .inr (.inr 17)), (1, .inl a0)] [] σ o) (fun _ _ => g_none) (fun rec hrec σ v1 => ?_)
  unfold l_Me_frameToFill_2
  refine g_iload_n C D_Me_frameToFill_2 rfl 1 rfl ?_
  refine g_aload_n C D_Me_frameToFill_3 rfl 0 rfl ?_
  refine g_get (ci := 4) C 0 (jz := 0) rfl rfl kI4 rfl (by decide) rfl rfl wf_4_9 rfl D_Me_frameToFill_4 ?_
  refine g_icmp_ge (tgt := 29) C D_Me_frameToFill_7 (by decide) ?_ ?_
  · refine g_sub [0] rfl ?_
    exact hk1 _
  · refine g_aload_n C D_Me_frameToFill_10 rfl 0 rfl ?_
    refine g_getr (ci := 4) C 6 rfl kI4 rfl (by decide) rfl rfl wf_4_30 D_Me_frameToFill_11 ?_
    refine g_iload_n C D_Me_frameToFill_14 rfl 1 rfl ?_
    refine g_iald C rfl rfl rfl D_Me_frameToFill_15 ?_
    refine g_bipush C D_Me_frameToFill_16 (by decide) ⟨by decide, by decide⟩ ?_
    refine g_icmp_ne (tgt := 23) C D_Me_frameToFill_18 (by decide) ?_ ?_
    · refine g_iinc (t := 1) (L' := fun z => [(1, .inl z), (0, .inr (.inr 17))]) C D_Me_frameToFill_23 rfl (by decide) (fun _ => rfl) (fun a1 => ?_)
      refine g_goto (tgt := 2) C D_Me_frameToFill_26 (by decide) ?_
      refine g_sub [1, 0] rfl ?_
      exact hrec _ _
    · refine g_iload_n C D_Me_frameToFill_21 rfl 1 rfl ?_
      exact g_iret C D_Me_frameToFill_22
def F_Me_frameToFill (σ : gM) : gO :=
  gl1 (l_Me_frameToFill_2 (fun s1 => gi 2 4 <|
  if (s1 1 2) = 0 then
  (gk (F_Me_earliest_r24 s1) fun s6 a7 =>
  some (s6, a7))
  else
  (gi 2 4 <|
  if (s1 1 2) = 1 then
  (gk (F_Me_earliest_r25 s1) fun s4 a5 =>
  some (s4, a5))
  else
  (gk (F_Me_handStops s1) fun s2 a3 =>
  some (s2, a3))))) 200 σ 0
set_option maxHeartbeats 4000000 in
theorem w_Me_frameToFill {X : gX} (C : gC gctC prog_6_method_3_code kR4 2 1 23 (some .int) X) (σ : gM) : GG gctC X 0 [(0, .inr (.inr 17))] [] σ (F_Me_frameToFill σ) := by
  unfold F_Me_frameToFill
  refine g_iconst C D_Me_frameToFill_0 ⟨by decide, by decide⟩ ?_
  refine g_istore_n (L' := [(1, .inl 0), (0, .inr (.inr 17))]) C D_Me_frameToFill_1 rfl (by decide) rfl ?_
  refine g_sub [1, 0] rfl ?_
  exact wl_Me_frameToFill_2 C (fun s1 => by
      refine g_aload_n C D_Me_frameToFill_29 rfl 0 rfl ?_
      refine g_getr (ci := 4) C 14 rfl kI4 rfl (by decide) rfl rfl wf_4_57 D_Me_frameToFill_30 ?_
      refine g_iconst C D_Me_frameToFill_33 ⟨by decide, by decide⟩ ?_
      refine g_iald C rfl rfl rfl D_Me_frameToFill_34 ?_
      refine g_if_ne (tgt := 47) C D_Me_frameToFill_35 (by decide) ?_ ?_
      · refine g_aload_n C D_Me_frameToFill_47 rfl 0 rfl ?_
        refine g_getr (ci := 4) C 14 rfl kI4 rfl (by decide) rfl rfl wf_4_57 D_Me_frameToFill_48 ?_
        refine g_iconst C D_Me_frameToFill_51 ⟨by decide, by decide⟩ ?_
        refine g_iald C rfl rfl rfl D_Me_frameToFill_52 ?_
        refine g_iconst C D_Me_frameToFill_53 ⟨by decide, by decide⟩ ?_
        refine g_icmp_ne (tgt := 66) C D_Me_frameToFill_54 (by decide) ?_ ?_
        · refine g_aload_n C D_Me_frameToFill_66 rfl 0 rfl ?_
          refine g_callVi (ci := 4) C [] [] (Or.inl rfl) rfl (fun _ h1 h2 h3 => c_Me_handStops h1 h2 h3) rfl rfl wc_4_90 (by decide) (Nat.le_of_ble_eq_true rfl) D_Me_frameToFill_67 (fun s2 a3 => ?_)
          exact g_iret C D_Me_frameToFill_70
        · refine g_aload_n C D_Me_frameToFill_57 rfl 0 rfl ?_
          refine g_aload_n C D_Me_frameToFill_58 rfl 0 rfl ?_
          refine g_getr (ci := 4) C 8 rfl kI4 rfl (by decide) rfl rfl wf_4_36 D_Me_frameToFill_59 ?_
          refine g_callVi (ci := 4) C [.inr (.inr 25)] [] (Or.inl rfl) rfl (fun _ h1 h2 h3 => c_Me_earliest_r25 h1 h2 h3) rfl rfl wc_4_86 (by decide) (Nat.le_of_ble_eq_true rfl) D_Me_frameToFill_62 (fun s4 a5 => ?_)
          exact g_iret C D_Me_frameToFill_65
      · refine g_aload_n C D_Me_frameToFill_38 rfl 0 rfl ?_
        refine g_aload_n C D_Me_frameToFill_39 rfl 0 rfl ?_
        refine g_getr (ci := 4) C 7 rfl kI4 rfl (by decide) rfl rfl wf_4_33 D_Me_frameToFill_40 ?_
        refine g_callVi (ci := 4) C [.inr (.inr 24)] [] (Or.inl rfl) rfl (fun _ h1 h2 h3 => c_Me_earliest_r24 h1 h2 h3) rfl rfl wc_4_86 (by decide) (Nat.le_of_ble_eq_true rfl) D_Me_frameToFill_43 (fun s6 a7 => ?_)
        exact g_iret C D_Me_frameToFill_46) 200 _ _
theorem c_Me_frameToFill {σ : gM} {r : gR} (ho : F_Me_frameToFill σ = some r) (hok : gOk [.inr (.inr 17)]) (hin : gIn gctC σ) : gCt gctC Y_Me_frameToFill prog_6_method_3_code 2 (some .int) 1 23 [.inr (.inr 17)] σ r := g_entry (by decide) rfl (Nat.le_of_ble_eq_true rfl) ho hok hin (fun X C => w_Me_frameToFill C σ)
theorem D_Me_arrive_0 : decode prog_6_method_7_code 0 = .ok (.iconst 0, 1) := by decide +kernel
theorem D_Me_arrive_1 : decode prog_6_method_7_code 1 = .ok (.istore_n 3, 1) := by decide +kernel
theorem D_Me_arrive_2 : decode prog_6_method_7_code 2 = .ok (.iload_n 3, 1) := by decide +kernel
theorem D_Me_arrive_3 : decode prog_6_method_7_code 3 = .ok (.bipush 32, 2) := by decide +kernel
theorem D_Me_arrive_5 : decode prog_6_method_7_code 5 = .ok (.if_icmp .ge 57, 3) := by decide +kernel
theorem D_Me_arrive_8 : decode prog_6_method_7_code 8 = .ok (.iload_n 2, 1) := by decide +kernel
theorem D_Me_arrive_9 : decode prog_6_method_7_code 9 = .ok (.bipush 32, 2) := by decide +kernel
theorem D_Me_arrive_11 : decode prog_6_method_7_code 11 = .ok (.imul, 1) := by decide +kernel
theorem D_Me_arrive_12 : decode prog_6_method_7_code 12 = .ok (.iload_n 3, 1) := by decide +kernel
theorem D_Me_arrive_13 : decode prog_6_method_7_code 13 = .ok (.iadd, 1) := by decide +kernel
theorem D_Me_arrive_14 : decode prog_6_method_7_code 14 = .ok (.istore 4, 2) := by decide +kernel
theorem D_Me_arrive_16 : decode prog_6_method_7_code 16 = .ok (.aload_n 0, 1) := by decide +kernel
theorem D_Me_arrive_17 : decode prog_6_method_7_code 17 = .ok (.getfield 42, 3) := by decide +kernel
theorem D_Me_arrive_20 : decode prog_6_method_7_code 20 = .ok (.iload_n 1, 1) := by decide +kernel
theorem D_Me_arrive_21 : decode prog_6_method_7_code 21 = .ok (.bipush 32, 2) := by decide +kernel
theorem D_Me_arrive_23 : decode prog_6_method_7_code 23 = .ok (.imul, 1) := by decide +kernel
theorem D_Me_arrive_24 : decode prog_6_method_7_code 24 = .ok (.iload_n 3, 1) := by decide +kernel
theorem D_Me_arrive_25 : decode prog_6_method_7_code 25 = .ok (.iadd, 1) := by decide +kernel
theorem D_Me_arrive_26 : decode prog_6_method_7_code 26 = .ok (.iaload, 1) := by decide +kernel
theorem D_Me_arrive_27 : decode prog_6_method_7_code 27 = .ok (.istore 5, 2) := by decide +kernel
theorem D_Me_arrive_29 : decode prog_6_method_7_code 29 = .ok (.aload_n 0, 1) := by decide +kernel
theorem D_Me_arrive_30 : decode prog_6_method_7_code 30 = .ok (.getfield 49, 3) := by decide +kernel
theorem D_Me_arrive_33 : decode prog_6_method_7_code 33 = .ok (.getfield 108, 3) := by decide +kernel
theorem D_Me_arrive_36 : decode prog_6_method_7_code 36 = .ok (.iload 4, 2) := by decide +kernel
theorem D_Me_arrive_38 : decode prog_6_method_7_code 38 = .ok (.iload 5, 2) := by decide +kernel
theorem D_Me_arrive_40 : decode prog_6_method_7_code 40 = .ok (.bipush (-5), 2) := by decide +kernel
theorem D_Me_arrive_42 : decode prog_6_method_7_code 42 = .ok (.if_icmp .ne 8, 3) := by decide +kernel
theorem D_Me_arrive_45 : decode prog_6_method_7_code 45 = .ok (.bipush 6, 2) := by decide +kernel
theorem D_Me_arrive_47 : decode prog_6_method_7_code 47 = .ok (.goto 8, 3) := by decide +kernel
theorem D_Me_arrive_50 : decode prog_6_method_7_code 50 = .ok (.iload 5, 2) := by decide +kernel
theorem D_Me_arrive_52 : decode prog_6_method_7_code 52 = .ok (.invokestatic 111, 3) := by decide +kernel
theorem D_Me_arrive_55 : decode prog_6_method_7_code 55 = .ok (.iastore, 1) := by decide +kernel
theorem D_Me_arrive_56 : decode prog_6_method_7_code 56 = .ok (.iinc 3 1, 3) := by decide +kernel
theorem D_Me_arrive_59 : decode prog_6_method_7_code 59 = .ok (.goto (-57), 3) := by decide +kernel
theorem D_Me_arrive_62 : decode prog_6_method_7_code 62 = .ok (.aload_n 0, 1) := by decide +kernel
theorem D_Me_arrive_63 : decode prog_6_method_7_code 63 = .ok (.getfield 15, 3) := by decide +kernel
theorem D_Me_arrive_66 : decode prog_6_method_7_code 66 = .ok (.iload_n 1, 1) := by decide +kernel
theorem D_Me_arrive_67 : decode prog_6_method_7_code 67 = .ok (.iload_n 2, 1) := by decide +kernel
theorem D_Me_arrive_68 : decode prog_6_method_7_code 68 = .ok (.iastore, 1) := by decide +kernel
theorem D_Me_arrive_69 : decode prog_6_method_7_code 69 = .ok (.aload_n 0, 1) := by decide +kernel
theorem D_Me_arrive_70 : decode prog_6_method_7_code 70 = .ok (.getfield 30, 3) := by decide +kernel
theorem D_Me_arrive_73 : decode prog_6_method_7_code 73 = .ok (.iload_n 2, 1) := by decide +kernel
theorem D_Me_arrive_74 : decode prog_6_method_7_code 74 = .ok (.iload_n 1, 1) := by decide +kernel
theorem D_Me_arrive_75 : decode prog_6_method_7_code 75 = .ok (.iastore, 1) := by decide +kernel
theorem D_Me_arrive_76 : decode prog_6_method_7_code 76 = .ok (.aload_n 0, 1) := by decide +kernel
theorem D_Me_arrive_77 : decode prog_6_method_7_code 77 = .ok (.getfield 33, 3) := by decide +kernel
theorem D_Me_arrive_80 : decode prog_6_method_7_code 80 = .ok (.iload_n 2, 1) := by decide +kernel
theorem D_Me_arrive_81 : decode prog_6_method_7_code 81 = .ok (.aload_n 0, 1) := by decide +kernel
theorem D_Me_arrive_82 : decode prog_6_method_7_code 82 = .ok (.getfield 60, 3) := by decide +kernel
theorem D_Me_arrive_85 : decode prog_6_method_7_code 85 = .ok (.iastore, 1) := by decide +kernel
theorem D_Me_arrive_86 : decode prog_6_method_7_code 86 = .ok (.return_, 1) := by decide +kernel
def j_Me_arrive_55_6 (k1 : gM → gO) (rec : gM → Int → gO) (σ : gM) (p1 p2 v3 t0 t1 : Int) : gO :=
  gw σ 6 512 t1 t0 fun s1 =>
  ga (v3 + 1) fun a2 =>
  rec s1 a2
set_option maxHeartbeats 4000000 in
theorem wj_Me_arrive_55_6 {X : gX} (C : gC gctC prog_6_method_7_code kR4 6 1 24 (none) X) {p1 p2 : Int} {k1 : gM → gO} (hk1 : ∀ (σ : gM), GG gctC X 62 [(0, .inr (.inr 17)), (1, .inl p1), (2, .inl p2)] [] σ (k1 σ)) {rec : gM → Int → gO} (hrec : ∀ (σ : gM) (a0 : Int), GG gctC X 2 [(0, .inr (.inr 17)), (1, .inl p1), (2, .inl p2), (3, .inl a0)] [] σ (rec σ a0)) (σ : gM) (v3 t0 t1 : Int) : GG gctC X 55 [(0, .inr (.inr 17)), (1, .inl p1), (2, .inl p2), (3, .inl v3)] [.inl t0, .inl t1, .inr (.inr 6)] σ (j_Me_arrive_55_6 k1 rec σ p1 p2 v3 t0 t1) := by
  unfold j_Me_arrive_55_6
  refine g_iast C rfl rfl D_Me_arrive_55 (fun s1 => ?_)
  refine g_iinc (t := 3) (L' := fun z => [(3, .inl z), (0, .inr (.inr 17)), (1, .inl p1), (2, .inl p2)]) C D_Me_arrive_56 rfl (by decide) (fun _ => rfl) (fun a2 => ?_)
  refine g_goto (tgt := 2) C D_Me_arrive_59 (by decide) ?_
  refine g_sub [1, 2, 3, 0] rfl ?_
  exact hrec _ _
def l_Me_arrive_2 (k1 : gM → gO) (p1 p2 : Int) (rec : gM → Int → gO) (σ : gM) (v3 : Int) : gO :=
  if v3 < 32 then
  (ga (p2 * 32) fun a1 =>
  ga (a1 + v3) fun a2 =>
  ga (p1 * 32) fun a3 =>
  ga (a3 + v3) fun a4 =>
  gi a4 1024 <|
  gv (σ 27 a4) fun a5 =>
  if a5 = (-5) then
  (j_Me_arrive_55_6 k1 rec σ p1 p2 v3 6 a2)
  else
  (gk (F_Ce_coded σ a5) fun s6 a7 =>
  j_Me_arrive_55_6 k1 rec s6 p1 p2 v3 a7 a2))
  else
  (k1 σ)
set_option maxHeartbeats 4000000 in
theorem wl_Me_arrive_2 {X : gX} (C : gC gctC prog_6_method_7_code kR4 6 1 24 (none) X) {p1 p2 : Int} {k1 : gM → gO} (hk1 : ∀ (σ : gM), GG gctC X 62 [(0, .inr (.inr 17)), (1, .inl p1), (2, .inl p2)] [] σ (k1 σ)) : ∀ (n : Nat) (σ : gM) (a0 : Int), GG gctC X 2 [(0, .inr (.inr 17)), (1, .inl p1), (2, .inl p2), (3, .inl a0)] [] σ (gl1 (l_Me_arrive_2 k1 p1 p2) n σ a0) := by
  refine gl1_run (P := fun σ a0 o => GG gctC X 2 [(0, .inr (.inr 17)), (1, .inl p1), (2, .inl p2), (3, .inl a0)] [] σ o) (fun _ _ => g_none) (fun rec hrec σ v3 => ?_)
  unfold l_Me_arrive_2
  refine g_iload_n C D_Me_arrive_2 rfl 3 rfl ?_
  refine g_bipush C D_Me_arrive_3 (by decide) ⟨by decide, by decide⟩ ?_
  refine g_icmp_ge (tgt := 62) C D_Me_arrive_5 (by decide) ?_ ?_
  · refine g_sub [0, 1, 2] rfl ?_
    exact hk1 _
  · refine g_iload_n C D_Me_arrive_8 rfl 2 rfl ?_
    refine g_bipush C D_Me_arrive_9 (by decide) ⟨by decide, by decide⟩ ?_
    refine g_imul C D_Me_arrive_11 (fun a1 => ?_)
    refine g_iload_n C D_Me_arrive_12 rfl 3 rfl ?_
    refine g_iadd C D_Me_arrive_13 (fun a2 => ?_)
    refine g_istore (L' := [(4, .inl a2), (0, .inr (.inr 17)), (1, .inl p1), (2, .inl p2), (3, .inl v3)]) C D_Me_arrive_14 (by decide) rfl ?_
    refine g_aload_n C D_Me_arrive_16 rfl 1 rfl ?_
    refine g_getr (ci := 4) C 10 rfl kI4 rfl (by decide) rfl rfl wf_4_42 D_Me_arrive_17 ?_
    refine g_iload_n C D_Me_arrive_20 rfl 2 rfl ?_
    refine g_bipush C D_Me_arrive_21 (by decide) ⟨by decide, by decide⟩ ?_
    refine g_imul C D_Me_arrive_23 (fun a3 => ?_)
    refine g_iload_n C D_Me_arrive_24 rfl 4 rfl ?_
    refine g_iadd C D_Me_arrive_25 (fun a4 => ?_)
    refine g_iald C rfl rfl rfl D_Me_arrive_26 ?_
    refine g_let C (fun a5 => ?_)
    refine g_istore (L' := [(5, .inl a5), (4, .inl a2), (0, .inr (.inr 17)), (1, .inl p1), (2, .inl p2), (3, .inl v3)]) C D_Me_arrive_27 (by decide) rfl ?_
    refine g_aload_n C D_Me_arrive_29 rfl 2 rfl ?_
    refine g_getr (ci := 4) C 12 rfl kI4 rfl (by decide) rfl rfl wf_4_49 D_Me_arrive_30 ?_
    refine g_getr (ci := 1) C 0 rfl kI1 rfl (by decide) rfl rfl wf_4_108 D_Me_arrive_33 ?_
    refine g_iload C D_Me_arrive_36 1 rfl ?_
    refine g_iload C D_Me_arrive_38 0 rfl ?_
    refine g_bipush C D_Me_arrive_40 (by decide) ⟨by decide, by decide⟩ ?_
    refine g_icmp_ne (tgt := 50) C D_Me_arrive_42 (by decide) ?_ ?_
    · refine g_iload C D_Me_arrive_50 0 rfl ?_
      refine g_callSi C [.inl a5] [.inl a2, .inr (.inr 6)] (Or.inl rfl) rfl (fun _ h1 h2 h3 => c_Ce_coded h1 h2 h3) wc_4_111 (by decide) (Nat.le_of_ble_eq_true rfl) D_Me_arrive_52 (fun s6 a7 => ?_)
      refine g_sub [2, 3, 4, 5] rfl ?_
      exact wj_Me_arrive_55_6 C hk1 hrec _ _ _ _
    · refine g_bipush C D_Me_arrive_45 (by decide) ⟨by decide, by decide⟩ ?_
      refine g_goto (tgt := 55) C D_Me_arrive_47 (by decide) ?_
      refine g_sub [2, 3, 4, 5] rfl ?_
      exact wj_Me_arrive_55_6 C hk1 hrec _ _ _ _
def F_Me_arrive (σ : gM) (v1 v2 : Int) : gO :=
  gl1 (l_Me_arrive_2 (fun s1 => gw s1 18 32 v1 v2 fun s2 =>
  gw s2 23 16 v2 v1 fun s3 =>
  gw s3 24 16 v2 (s3 17 5) fun s4 =>
  some (s4, 0)) v1 v2) 200 σ 0
set_option maxHeartbeats 4000000 in
theorem w_Me_arrive {X : gX} (C : gC gctC prog_6_method_7_code kR4 6 1 24 (none) X) (σ : gM) (v1 v2 : Int) : GG gctC X 0 [(0, .inr (.inr 17)), (1, .inl v1), (2, .inl v2)] [] σ (F_Me_arrive σ v1 v2) := by
  unfold F_Me_arrive
  refine g_iconst C D_Me_arrive_0 ⟨by decide, by decide⟩ ?_
  refine g_istore_n (L' := [(3, .inl 0), (0, .inr (.inr 17)), (1, .inl v1), (2, .inl v2)]) C D_Me_arrive_1 rfl (by decide) rfl ?_
  refine g_sub [1, 2, 3, 0] rfl ?_
  exact wl_Me_arrive_2 C (fun s1 => by
      refine g_aload_n C D_Me_arrive_62 rfl 0 rfl ?_
      refine g_getr (ci := 4) C 1 rfl kI4 rfl (by decide) rfl rfl wf_4_15 D_Me_arrive_63 ?_
      refine g_iload_n C D_Me_arrive_66 rfl 1 rfl ?_
      refine g_iload_n C D_Me_arrive_67 rfl 2 rfl ?_
      refine g_iast C rfl rfl D_Me_arrive_68 (fun s2 => ?_)
      refine g_aload_n C D_Me_arrive_69 rfl 0 rfl ?_
      refine g_getr (ci := 4) C 6 rfl kI4 rfl (by decide) rfl rfl wf_4_30 D_Me_arrive_70 ?_
      refine g_iload_n C D_Me_arrive_73 rfl 2 rfl ?_
      refine g_iload_n C D_Me_arrive_74 rfl 1 rfl ?_
      refine g_iast C rfl rfl D_Me_arrive_75 (fun s3 => ?_)
      refine g_aload_n C D_Me_arrive_76 rfl 0 rfl ?_
      refine g_getr (ci := 4) C 7 rfl kI4 rfl (by decide) rfl rfl wf_4_33 D_Me_arrive_77 ?_
      refine g_iload_n C D_Me_arrive_80 rfl 2 rfl ?_
      refine g_aload_n C D_Me_arrive_81 rfl 0 rfl ?_
      refine g_get (ci := 4) C 5 (jz := 5) rfl rfl kI4 rfl (by decide) rfl rfl wf_4_60 rfl D_Me_arrive_82 ?_
      refine g_iast C rfl rfl D_Me_arrive_85 (fun s4 => ?_)
      exact g_vret C D_Me_arrive_86) 200 _ _
theorem c_Me_arrive {σ : gM} {v1 v2 : Int} {r : gR} (ho : F_Me_arrive σ v1 v2 = some r) (hok : gOk [.inr (.inr 17), .inl v1, .inl v2]) (hin : gIn gctC σ) : gCt gctC Y_Me_arrive prog_6_method_7_code 6 (none) 1 24 [.inr (.inr 17), .inl v1, .inl v2] σ r := g_entry (by decide) rfl (Nat.le_of_ble_eq_true rfl) ho hok hin (fun X C => w_Me_arrive C σ v1 v2)
theorem D_Me_leave_0 : decode prog_6_method_6_code 0 = .ok (.aload_n 0, 1) := by decide +kernel
theorem D_Me_leave_1 : decode prog_6_method_6_code 1 = .ok (.getfield 30, 3) := by decide +kernel
theorem D_Me_leave_4 : decode prog_6_method_6_code 4 = .ok (.iload_n 1, 1) := by decide +kernel
theorem D_Me_leave_5 : decode prog_6_method_6_code 5 = .ok (.iaload, 1) := by decide +kernel
theorem D_Me_leave_6 : decode prog_6_method_6_code 6 = .ok (.istore_n 3, 1) := by decide +kernel
theorem D_Me_leave_7 : decode prog_6_method_6_code 7 = .ok (.aload_n 0, 1) := by decide +kernel
theorem D_Me_leave_8 : decode prog_6_method_6_code 8 = .ok (.getfield 53, 3) := by decide +kernel
theorem D_Me_leave_11 : decode prog_6_method_6_code 11 = .ok (.iload_n 1, 1) := by decide +kernel
theorem D_Me_leave_12 : decode prog_6_method_6_code 12 = .ok (.iconst 4, 1) := by decide +kernel
theorem D_Me_leave_13 : decode prog_6_method_6_code 13 = .ok (.imul, 1) := by decide +kernel
theorem D_Me_leave_14 : decode prog_6_method_6_code 14 = .ok (.iconst 4, 1) := by decide +kernel
theorem D_Me_leave_15 : decode prog_6_method_6_code 15 = .ok (.iload_n 2, 1) := by decide +kernel
theorem D_Me_leave_16 : decode prog_6_method_6_code 16 = .ok (.invokevirtual 96, 3) := by decide +kernel
theorem D_Me_leave_19 : decode prog_6_method_6_code 19 = .ok (.iload_n 2, 1) := by decide +kernel
theorem D_Me_leave_20 : decode prog_6_method_6_code 20 = .ok (.iconst (-1), 1) := by decide +kernel
theorem D_Me_leave_21 : decode prog_6_method_6_code 21 = .ok (.if_icmp .eq 13, 3) := by decide +kernel
theorem D_Me_leave_24 : decode prog_6_method_6_code 24 = .ok (.aload_n 0, 1) := by decide +kernel
theorem D_Me_leave_25 : decode prog_6_method_6_code 25 = .ok (.getfield 45, 3) := by decide +kernel
theorem D_Me_leave_28 : decode prog_6_method_6_code 28 = .ok (.iload_n 2, 1) := by decide +kernel
theorem D_Me_leave_29 : decode prog_6_method_6_code 29 = .ok (.bipush 20, 2) := by decide +kernel
theorem D_Me_leave_31 : decode prog_6_method_6_code 31 = .ok (.invokevirtual 69, 3) := by decide +kernel
theorem D_Me_leave_34 : decode prog_6_method_6_code 34 = .ok (.aload_n 0, 1) := by decide +kernel
theorem D_Me_leave_35 : decode prog_6_method_6_code 35 = .ok (.getfield 45, 3) := by decide +kernel
theorem D_Me_leave_38 : decode prog_6_method_6_code 38 = .ok (.bipush 7, 2) := by decide +kernel
theorem D_Me_leave_40 : decode prog_6_method_6_code 40 = .ok (.iconst 1, 1) := by decide +kernel
theorem D_Me_leave_41 : decode prog_6_method_6_code 41 = .ok (.invokevirtual 63, 3) := by decide +kernel
theorem D_Me_leave_44 : decode prog_6_method_6_code 44 = .ok (.iconst 0, 1) := by decide +kernel
theorem D_Me_leave_45 : decode prog_6_method_6_code 45 = .ok (.istore 4, 2) := by decide +kernel
theorem D_Me_leave_47 : decode prog_6_method_6_code 47 = .ok (.iload 4, 2) := by decide +kernel
theorem D_Me_leave_49 : decode prog_6_method_6_code 49 = .ok (.bipush 32, 2) := by decide +kernel
theorem D_Me_leave_51 : decode prog_6_method_6_code 51 = .ok (.if_icmp .ge 35, 3) := by decide +kernel
theorem D_Me_leave_54 : decode prog_6_method_6_code 54 = .ok (.aload_n 0, 1) := by decide +kernel
theorem D_Me_leave_55 : decode prog_6_method_6_code 55 = .ok (.getfield 42, 3) := by decide +kernel
theorem D_Me_leave_58 : decode prog_6_method_6_code 58 = .ok (.iload_n 3, 1) := by decide +kernel
theorem D_Me_leave_59 : decode prog_6_method_6_code 59 = .ok (.bipush 32, 2) := by decide +kernel
theorem D_Me_leave_61 : decode prog_6_method_6_code 61 = .ok (.imul, 1) := by decide +kernel
theorem D_Me_leave_62 : decode prog_6_method_6_code 62 = .ok (.iload 4, 2) := by decide +kernel
theorem D_Me_leave_64 : decode prog_6_method_6_code 64 = .ok (.iadd, 1) := by decide +kernel
theorem D_Me_leave_65 : decode prog_6_method_6_code 65 = .ok (.aload_n 0, 1) := by decide +kernel
theorem D_Me_leave_66 : decode prog_6_method_6_code 66 = .ok (.getfield 49, 3) := by decide +kernel
theorem D_Me_leave_69 : decode prog_6_method_6_code 69 = .ok (.iload_n 1, 1) := by decide +kernel
theorem D_Me_leave_70 : decode prog_6_method_6_code 70 = .ok (.bipush 32, 2) := by decide +kernel
theorem D_Me_leave_72 : decode prog_6_method_6_code 72 = .ok (.imul, 1) := by decide +kernel
theorem D_Me_leave_73 : decode prog_6_method_6_code 73 = .ok (.iload 4, 2) := by decide +kernel
theorem D_Me_leave_75 : decode prog_6_method_6_code 75 = .ok (.iadd, 1) := by decide +kernel
theorem D_Me_leave_76 : decode prog_6_method_6_code 76 = .ok (.invokevirtual 102, 3) := by decide +kernel
theorem D_Me_leave_79 : decode prog_6_method_6_code 79 = .ok (.iastore, 1) := by decide +kernel
theorem D_Me_leave_80 : decode prog_6_method_6_code 80 = .ok (.iinc 4 1, 3) := by decide +kernel
theorem D_Me_leave_83 : decode prog_6_method_6_code 83 = .ok (.goto (-36), 3) := by decide +kernel
theorem D_Me_leave_86 : decode prog_6_method_6_code 86 = .ok (.aload_n 0, 1) := by decide +kernel
theorem D_Me_leave_87 : decode prog_6_method_6_code 87 = .ok (.getfield 15, 3) := by decide +kernel
theorem D_Me_leave_90 : decode prog_6_method_6_code 90 = .ok (.iload_n 3, 1) := by decide +kernel
theorem D_Me_leave_91 : decode prog_6_method_6_code 91 = .ok (.bipush (-4), 2) := by decide +kernel
theorem D_Me_leave_93 : decode prog_6_method_6_code 93 = .ok (.iastore, 1) := by decide +kernel
theorem D_Me_leave_94 : decode prog_6_method_6_code 94 = .ok (.aload_n 0, 1) := by decide +kernel
theorem D_Me_leave_95 : decode prog_6_method_6_code 95 = .ok (.getfield 30, 3) := by decide +kernel
theorem D_Me_leave_98 : decode prog_6_method_6_code 98 = .ok (.iload_n 1, 1) := by decide +kernel
theorem D_Me_leave_99 : decode prog_6_method_6_code 99 = .ok (.bipush (-4), 2) := by decide +kernel
theorem D_Me_leave_101 : decode prog_6_method_6_code 101 = .ok (.iastore, 1) := by decide +kernel
theorem D_Me_leave_102 : decode prog_6_method_6_code 102 = .ok (.return_, 1) := by decide +kernel
def l_Me_leave_47 (k1 : gM → gO) (p1 p3 : Int) (rec : gM → Int → gO) (σ : gM) (v4 : Int) : gO :=
  if v4 < 32 then
  (ga (p3 * 32) fun a1 =>
  ga (a1 + v4) fun a2 =>
  ga (p1 * 32) fun a3 =>
  ga (a3 + v4) fun a4 =>
  gk (F_Ce_read σ a4) fun s5 a6 =>
  gw s5 27 1024 a2 a6 fun s7 =>
  ga (v4 + 1) fun a8 =>
  rec s7 a8)
  else
  (k1 σ)
set_option maxHeartbeats 4000000 in
theorem wl_Me_leave_47 {X : gX} (C : gC gctC prog_6_method_6_code kR4 5 3 76 (none) X) {p1 p3 : Int} {k1 : gM → gO} (hk1 : ∀ (σ : gM), GG gctC X 86 [(0, .inr (.inr 17)), (1, .inl p1), (3, .inl p3)] [] σ (k1 σ)) : ∀ (n : Nat) (σ : gM) (a0 : Int), GG gctC X 47 [(0, .inr (.inr 17)), (1, .inl p1), (3, .inl p3), (4, .inl a0)] [] σ (gl1 (l_Me_leave_47 k1 p1 p3) n σ a0) := by
  refine gl1_run (P := fun σ a0 o => GG gctC X 47 [(0, .inr (.inr 17)), (1, .inl p1), (3, .inl p3), (4, .inl a0)] [] σ o) (fun _ _ => g_none) (fun rec hrec σ v4 => ?_)
  unfold l_Me_leave_47
  refine g_iload C D_Me_leave_47 3 rfl ?_
  refine g_bipush C D_Me_leave_49 (by decide) ⟨by decide, by decide⟩ ?_
  refine g_icmp_ge (tgt := 86) C D_Me_leave_51 (by decide) ?_ ?_
  · refine g_sub [0, 1, 2] rfl ?_
    exact hk1 _
  · refine g_aload_n C D_Me_leave_54 rfl 0 rfl ?_
    refine g_getr (ci := 4) C 10 rfl kI4 rfl (by decide) rfl rfl wf_4_42 D_Me_leave_55 ?_
    refine g_iload_n C D_Me_leave_58 rfl 2 rfl ?_
    refine g_bipush C D_Me_leave_59 (by decide) ⟨by decide, by decide⟩ ?_
    refine g_imul C D_Me_leave_61 (fun a1 => ?_)
    refine g_iload C D_Me_leave_62 3 rfl ?_
    refine g_iadd C D_Me_leave_64 (fun a2 => ?_)
    refine g_aload_n C D_Me_leave_65 rfl 0 rfl ?_
    refine g_getr (ci := 4) C 12 rfl kI4 rfl (by decide) rfl rfl wf_4_49 D_Me_leave_66 ?_
    refine g_iload_n C D_Me_leave_69 rfl 1 rfl ?_
    refine g_bipush C D_Me_leave_70 (by decide) ⟨by decide, by decide⟩ ?_
    refine g_imul C D_Me_leave_72 (fun a3 => ?_)
    refine g_iload C D_Me_leave_73 3 rfl ?_
    refine g_iadd C D_Me_leave_75 (fun a4 => ?_)
    refine g_callVi (ci := 1) C [.inl a4] [.inl a2, .inr (.inr 27)] (Or.inl rfl) rfl (fun _ h1 h2 h3 => c_Ce_read h1 h2 h3) rfl rfl wc_4_102 (by decide) (Nat.le_of_ble_eq_true rfl) D_Me_leave_76 (fun s5 a6 => ?_)
    refine g_iast C rfl rfl D_Me_leave_79 (fun s7 => ?_)
    refine g_iinc (t := 3) (L' := fun z => [(4, .inl z), (0, .inr (.inr 17)), (1, .inl p1), (3, .inl p3)]) C D_Me_leave_80 rfl (by decide) (fun _ => rfl) (fun a8 => ?_)
    refine g_goto (tgt := 47) C D_Me_leave_83 (by decide) ?_
    refine g_sub [1, 2, 3, 0] rfl ?_
    exact hrec _ _
def j_Me_leave_34 (σ : gM) (v1 v3 : Int) : gO :=
  gk (F_Le_add σ 7 1) fun s1 _ =>
  gl1 (l_Me_leave_47 (fun s2 => gw s2 18 32 v3 (-4) fun s3 =>
  gw s3 23 16 v1 (-4) fun s4 =>
  some (s4, 0)) v1 v3) 200 s1 0
set_option maxHeartbeats 4000000 in
theorem wj_Me_leave_34 {X : gX} (C : gC gctC prog_6_method_6_code kR4 5 3 76 (none) X) (σ : gM) (v1 v3 : Int) : GG gctC X 34 [(0, .inr (.inr 17)), (1, .inl v1), (3, .inl v3)] [] σ (j_Me_leave_34 σ v1 v3) := by
  unfold j_Me_leave_34
  refine g_aload_n C D_Me_leave_34 rfl 0 rfl ?_
  refine g_getr (ci := 4) C 11 rfl kI4 rfl (by decide) rfl rfl wf_4_45 D_Me_leave_35 ?_
  refine g_bipush C D_Me_leave_38 (by decide) ⟨by decide, by decide⟩ ?_
  refine g_iconst C D_Me_leave_40 ⟨by decide, by decide⟩ ?_
  refine g_callVv (ci := 3) C [.inl 7, .inl 1] [] rfl rfl (fun _ h1 h2 h3 => c_Le_add h1 h2 h3) rfl rfl wc_4_63 (by decide) (Nat.le_of_ble_eq_true rfl) D_Me_leave_41 (fun s1 _ => ?_)
  refine g_iconst C D_Me_leave_44 ⟨by decide, by decide⟩ ?_
  refine g_istore (L' := [(4, .inl 0), (0, .inr (.inr 17)), (1, .inl v1), (3, .inl v3)]) C D_Me_leave_45 (by decide) rfl ?_
  refine g_sub [1, 2, 3, 0] rfl ?_
  exact wl_Me_leave_47 C (fun s2 => by
      refine g_aload_n C D_Me_leave_86 rfl 0 rfl ?_
      refine g_getr (ci := 4) C 1 rfl kI4 rfl (by decide) rfl rfl wf_4_15 D_Me_leave_87 ?_
      refine g_iload_n C D_Me_leave_90 rfl 2 rfl ?_
      refine g_bipush C D_Me_leave_91 (by decide) ⟨by decide, by decide⟩ ?_
      refine g_iast C rfl rfl D_Me_leave_93 (fun s3 => ?_)
      refine g_aload_n C D_Me_leave_94 rfl 0 rfl ?_
      refine g_getr (ci := 4) C 6 rfl kI4 rfl (by decide) rfl rfl wf_4_30 D_Me_leave_95 ?_
      refine g_iload_n C D_Me_leave_98 rfl 1 rfl ?_
      refine g_bipush C D_Me_leave_99 (by decide) ⟨by decide, by decide⟩ ?_
      refine g_iast C rfl rfl D_Me_leave_101 (fun s4 => ?_)
      exact g_vret C D_Me_leave_102) 200 _ _
def F_Me_leave (σ : gM) (v1 v2 : Int) : gO :=
  gi v1 16 <|
  gv (σ 23 v1) fun a1 =>
  ga (v1 * 4) fun a2 =>
  gk (F_Ca_dismiss σ a2 4 v2) fun s3 _ =>
  if v2 = (-1) then
  (j_Me_leave_34 s3 v1 a1)
  else
  (gk (F_Le_spend s3 v2 20) fun s4 _ =>
  j_Me_leave_34 s4 v1 a1)
set_option maxHeartbeats 4000000 in
theorem w_Me_leave {X : gX} (C : gC gctC prog_6_method_6_code kR4 5 3 76 (none) X) (σ : gM) (v1 v2 : Int) : GG gctC X 0 [(0, .inr (.inr 17)), (1, .inl v1), (2, .inl v2)] [] σ (F_Me_leave σ v1 v2) := by
  unfold F_Me_leave
  refine g_aload_n C D_Me_leave_0 rfl 0 rfl ?_
  refine g_getr (ci := 4) C 6 rfl kI4 rfl (by decide) rfl rfl wf_4_30 D_Me_leave_1 ?_
  refine g_iload_n C D_Me_leave_4 rfl 1 rfl ?_
  refine g_iald C rfl rfl rfl D_Me_leave_5 ?_
  refine g_let C (fun a1 => ?_)
  refine g_istore_n (L' := [(3, .inl a1), (0, .inr (.inr 17)), (1, .inl v1), (2, .inl v2)]) C D_Me_leave_6 rfl (by decide) rfl ?_
  refine g_aload_n C D_Me_leave_7 rfl 1 rfl ?_
  refine g_getr (ci := 4) C 13 rfl kI4 rfl (by decide) rfl rfl wf_4_53 D_Me_leave_8 ?_
  refine g_iload_n C D_Me_leave_11 rfl 2 rfl ?_
  refine g_iconst C D_Me_leave_12 ⟨by decide, by decide⟩ ?_
  refine g_imul C D_Me_leave_13 (fun a2 => ?_)
  refine g_iconst C D_Me_leave_14 ⟨by decide, by decide⟩ ?_
  refine g_iload_n C D_Me_leave_15 rfl 3 rfl ?_
  refine g_callVv (ci := 0) C [.inl a2, .inl 4, .inl v2] [] rfl rfl (fun _ h1 h2 h3 => c_Ca_dismiss h1 h2 h3) rfl rfl wc_4_96 (by decide) (Nat.le_of_ble_eq_true rfl) D_Me_leave_16 (fun s3 _ => ?_)
  refine g_iload_n C D_Me_leave_19 rfl 3 rfl ?_
  refine g_iconst C D_Me_leave_20 ⟨by decide, by decide⟩ ?_
  refine g_icmp_eq (tgt := 34) C D_Me_leave_21 (by decide) ?_ ?_
  · refine g_sub [1, 2, 0] rfl ?_
    exact wj_Me_leave_34 C _ _ _
  · refine g_aload_n C D_Me_leave_24 rfl 1 rfl ?_
    refine g_getr (ci := 4) C 11 rfl kI4 rfl (by decide) rfl rfl wf_4_45 D_Me_leave_25 ?_
    refine g_iload_n C D_Me_leave_28 rfl 3 rfl ?_
    refine g_bipush C D_Me_leave_29 (by decide) ⟨by decide, by decide⟩ ?_
    refine g_callVv (ci := 3) C [.inl v2, .inl 20] [] rfl rfl (fun _ h1 h2 h3 => c_Le_spend h1 h2 h3) rfl rfl wc_4_69 (by decide) (Nat.le_of_ble_eq_true rfl) D_Me_leave_31 (fun s4 _ => ?_)
    refine g_sub [1, 2, 0] rfl ?_
    exact wj_Me_leave_34 C _ _ _
theorem c_Me_leave {σ : gM} {v1 v2 : Int} {r : gR} (ho : F_Me_leave σ v1 v2 = some r) (hok : gOk [.inr (.inr 17), .inl v1, .inl v2]) (hin : gIn gctC σ) : gCt gctC Y_Me_leave prog_6_method_6_code 5 (none) 3 76 [.inr (.inr 17), .inl v1, .inl v2] σ r := g_entry (by decide) rfl (Nat.le_of_ble_eq_true rfl) ho hok hin (fun X C => w_Me_leave C σ v1 v2)
theorem D_Me_touch_0 : decode prog_6_method_2_code 0 = .ok (.iload_n 1, 1) := by decide +kernel
theorem D_Me_touch_1 : decode prog_6_method_2_code 1 = .ok (.bipush 32, 2) := by decide +kernel
theorem D_Me_touch_3 : decode prog_6_method_2_code 3 = .ok (.idiv, 1) := by decide +kernel
theorem D_Me_touch_4 : decode prog_6_method_2_code 4 = .ok (.istore_n 2, 1) := by decide +kernel
theorem D_Me_touch_5 : decode prog_6_method_2_code 5 = .ok (.aload_n 0, 1) := by decide +kernel
theorem D_Me_touch_6 : decode prog_6_method_2_code 6 = .ok (.getfield 15, 3) := by decide +kernel
theorem D_Me_touch_9 : decode prog_6_method_2_code 9 = .ok (.iload_n 2, 1) := by decide +kernel
theorem D_Me_touch_10 : decode prog_6_method_2_code 10 = .ok (.iaload, 1) := by decide +kernel
theorem D_Me_touch_11 : decode prog_6_method_2_code 11 = .ok (.istore_n 3, 1) := by decide +kernel
theorem D_Me_touch_12 : decode prog_6_method_2_code 12 = .ok (.aload_n 0, 1) := by decide +kernel
theorem D_Me_touch_13 : decode prog_6_method_2_code 13 = .ok (.dup, 1) := by decide +kernel
theorem D_Me_touch_14 : decode prog_6_method_2_code 14 = .ok (.getfield 60, 3) := by decide +kernel
theorem D_Me_touch_17 : decode prog_6_method_2_code 17 = .ok (.iconst 1, 1) := by decide +kernel
theorem D_Me_touch_18 : decode prog_6_method_2_code 18 = .ok (.iadd, 1) := by decide +kernel
theorem D_Me_touch_19 : decode prog_6_method_2_code 19 = .ok (.putfield 60, 3) := by decide +kernel
theorem D_Me_touch_22 : decode prog_6_method_2_code 22 = .ok (.iload_n 3, 1) := by decide +kernel
theorem D_Me_touch_23 : decode prog_6_method_2_code 23 = .ok (.bipush (-4), 2) := by decide +kernel
theorem D_Me_touch_25 : decode prog_6_method_2_code 25 = .ok (.if_icmp .ne 53, 3) := by decide +kernel
theorem D_Me_touch_28 : decode prog_6_method_2_code 28 = .ok (.aload_n 0, 1) := by decide +kernel
theorem D_Me_touch_29 : decode prog_6_method_2_code 29 = .ok (.getfield 45, 3) := by decide +kernel
theorem D_Me_touch_32 : decode prog_6_method_2_code 32 = .ok (.bipush 6, 2) := by decide +kernel
theorem D_Me_touch_34 : decode prog_6_method_2_code 34 = .ok (.iconst 1, 1) := by decide +kernel
theorem D_Me_touch_35 : decode prog_6_method_2_code 35 = .ok (.invokevirtual 63, 3) := by decide +kernel
theorem D_Me_touch_38 : decode prog_6_method_2_code 38 = .ok (.aload_n 0, 1) := by decide +kernel
theorem D_Me_touch_39 : decode prog_6_method_2_code 39 = .ok (.getfield 45, 3) := by decide +kernel
theorem D_Me_touch_42 : decode prog_6_method_2_code 42 = .ok (.bipush 6, 2) := by decide +kernel
theorem D_Me_touch_44 : decode prog_6_method_2_code 44 = .ok (.bipush 20, 2) := by decide +kernel
theorem D_Me_touch_46 : decode prog_6_method_2_code 46 = .ok (.invokevirtual 69, 3) := by decide +kernel
theorem D_Me_touch_49 : decode prog_6_method_2_code 49 = .ok (.aload_n 0, 1) := by decide +kernel
theorem D_Me_touch_50 : decode prog_6_method_2_code 50 = .ok (.invokevirtual 72, 3) := by decide +kernel
theorem D_Me_touch_53 : decode prog_6_method_2_code 53 = .ok (.istore_n 3, 1) := by decide +kernel
theorem D_Me_touch_54 : decode prog_6_method_2_code 54 = .ok (.aload_n 0, 1) := by decide +kernel
theorem D_Me_touch_55 : decode prog_6_method_2_code 55 = .ok (.getfield 30, 3) := by decide +kernel
theorem D_Me_touch_58 : decode prog_6_method_2_code 58 = .ok (.iload_n 3, 1) := by decide +kernel
theorem D_Me_touch_59 : decode prog_6_method_2_code 59 = .ok (.iaload, 1) := by decide +kernel
theorem D_Me_touch_60 : decode prog_6_method_2_code 60 = .ok (.bipush (-4), 2) := by decide +kernel
theorem D_Me_touch_62 : decode prog_6_method_2_code 62 = .ok (.if_icmp .eq 10, 3) := by decide +kernel
theorem D_Me_touch_65 : decode prog_6_method_2_code 65 = .ok (.aload_n 0, 1) := by decide +kernel
theorem D_Me_touch_66 : decode prog_6_method_2_code 66 = .ok (.iload_n 3, 1) := by decide +kernel
theorem D_Me_touch_67 : decode prog_6_method_2_code 67 = .ok (.bipush 6, 2) := by decide +kernel
theorem D_Me_touch_69 : decode prog_6_method_2_code 69 = .ok (.invokevirtual 76, 3) := by decide +kernel
theorem D_Me_touch_72 : decode prog_6_method_2_code 72 = .ok (.aload_n 0, 1) := by decide +kernel
theorem D_Me_touch_73 : decode prog_6_method_2_code 73 = .ok (.iload_n 2, 1) := by decide +kernel
theorem D_Me_touch_74 : decode prog_6_method_2_code 74 = .ok (.iload_n 3, 1) := by decide +kernel
theorem D_Me_touch_75 : decode prog_6_method_2_code 75 = .ok (.invokevirtual 79, 3) := by decide +kernel
theorem D_Me_touch_78 : decode prog_6_method_2_code 78 = .ok (.aload_n 0, 1) := by decide +kernel
theorem D_Me_touch_79 : decode prog_6_method_2_code 79 = .ok (.getfield 36, 3) := by decide +kernel
theorem D_Me_touch_82 : decode prog_6_method_2_code 82 = .ok (.iload_n 3, 1) := by decide +kernel
theorem D_Me_touch_83 : decode prog_6_method_2_code 83 = .ok (.aload_n 0, 1) := by decide +kernel
theorem D_Me_touch_84 : decode prog_6_method_2_code 84 = .ok (.getfield 60, 3) := by decide +kernel
theorem D_Me_touch_87 : decode prog_6_method_2_code 87 = .ok (.iastore, 1) := by decide +kernel
theorem D_Me_touch_88 : decode prog_6_method_2_code 88 = .ok (.aload_n 0, 1) := by decide +kernel
theorem D_Me_touch_89 : decode prog_6_method_2_code 89 = .ok (.getfield 39, 3) := by decide +kernel
theorem D_Me_touch_92 : decode prog_6_method_2_code 92 = .ok (.iload_n 3, 1) := by decide +kernel
theorem D_Me_touch_93 : decode prog_6_method_2_code 93 = .ok (.iconst 1, 1) := by decide +kernel
theorem D_Me_touch_94 : decode prog_6_method_2_code 94 = .ok (.bastore, 1) := by decide +kernel
theorem D_Me_touch_95 : decode prog_6_method_2_code 95 = .ok (.aload_n 0, 1) := by decide +kernel
theorem D_Me_touch_96 : decode prog_6_method_2_code 96 = .ok (.getfield 19, 3) := by decide +kernel
theorem D_Me_touch_99 : decode prog_6_method_2_code 99 = .ok (.iload_n 2, 1) := by decide +kernel
theorem D_Me_touch_100 : decode prog_6_method_2_code 100 = .ok (.iconst 1, 1) := by decide +kernel
theorem D_Me_touch_101 : decode prog_6_method_2_code 101 = .ok (.bastore, 1) := by decide +kernel
theorem D_Me_touch_102 : decode prog_6_method_2_code 102 = .ok (.aload_n 0, 1) := by decide +kernel
theorem D_Me_touch_103 : decode prog_6_method_2_code 103 = .ok (.getfield 26, 3) := by decide +kernel
theorem D_Me_touch_106 : decode prog_6_method_2_code 106 = .ok (.iload_n 2, 1) := by decide +kernel
theorem D_Me_touch_107 : decode prog_6_method_2_code 107 = .ok (.invokevirtual 82, 3) := by decide +kernel
theorem D_Me_touch_110 : decode prog_6_method_2_code 110 = .ok (.iload_n 3, 1) := by decide +kernel
theorem D_Me_touch_111 : decode prog_6_method_2_code 111 = .ok (.bipush 32, 2) := by decide +kernel
theorem D_Me_touch_113 : decode prog_6_method_2_code 113 = .ok (.imul, 1) := by decide +kernel
theorem D_Me_touch_114 : decode prog_6_method_2_code 114 = .ok (.iload_n 1, 1) := by decide +kernel
theorem D_Me_touch_115 : decode prog_6_method_2_code 115 = .ok (.bipush 32, 2) := by decide +kernel
theorem D_Me_touch_117 : decode prog_6_method_2_code 117 = .ok (.irem, 1) := by decide +kernel
theorem D_Me_touch_118 : decode prog_6_method_2_code 118 = .ok (.iadd, 1) := by decide +kernel
theorem D_Me_touch_119 : decode prog_6_method_2_code 119 = .ok (.ireturn, 1) := by decide +kernel
def j_Me_touch_78 (σ : gM) (v1 v2 v3 : Int) : gO :=
  gw σ 25 16 v3 (σ 17 5) fun s1 =>
  gwb s1 26 16 v3 1 fun s2 =>
  gwb s2 19 32 v2 1 fun s3 =>
  gk (F_Ru_append s3 v2) fun s4 _ =>
  ga (v3 * 32) fun a5 =>
  gd v1 32 <|
  ga (a5 + (v1 % 32)) fun a6 =>
  some (s4, a6)
set_option maxHeartbeats 4000000 in
theorem wj_Me_touch_78 {X : gX} (C : gC gctC prog_6_method_2_code kR4 4 4 100 (some .int) X) (σ : gM) (v1 v2 v3 : Int) : GG gctC X 78 [(0, .inr (.inr 17)), (1, .inl v1), (2, .inl v2), (3, .inl v3)] [] σ (j_Me_touch_78 σ v1 v2 v3) := by
  unfold j_Me_touch_78
  refine g_aload_n C D_Me_touch_78 rfl 0 rfl ?_
  refine g_getr (ci := 4) C 8 rfl kI4 rfl (by decide) rfl rfl wf_4_36 D_Me_touch_79 ?_
  refine g_iload_n C D_Me_touch_82 rfl 3 rfl ?_
  refine g_aload_n C D_Me_touch_83 rfl 0 rfl ?_
  refine g_get (ci := 4) C 5 (jz := 5) rfl rfl kI4 rfl (by decide) rfl rfl wf_4_60 rfl D_Me_touch_84 ?_
  refine g_iast C rfl rfl D_Me_touch_87 (fun s1 => ?_)
  refine g_aload_n C D_Me_touch_88 rfl 0 rfl ?_
  refine g_getr (ci := 4) C 9 rfl kI4 rfl (by decide) rfl rfl wf_4_39 D_Me_touch_89 ?_
  refine g_iload_n C D_Me_touch_92 rfl 3 rfl ?_
  refine g_iconst C D_Me_touch_93 ⟨by decide, by decide⟩ ?_
  refine g_zast C rfl rfl D_Me_touch_94 (fun s2 => ?_)
  refine g_aload_n C D_Me_touch_95 rfl 0 rfl ?_
  refine g_getr (ci := 4) C 2 rfl kI4 rfl (by decide) rfl rfl wf_4_19 D_Me_touch_96 ?_
  refine g_iload_n C D_Me_touch_99 rfl 2 rfl ?_
  refine g_iconst C D_Me_touch_100 ⟨by decide, by decide⟩ ?_
  refine g_zast C rfl rfl D_Me_touch_101 (fun s3 => ?_)
  refine g_aload_n C D_Me_touch_102 rfl 0 rfl ?_
  refine g_getr (ci := 4) C 3 rfl kI4 rfl (by decide) rfl rfl wf_4_26 D_Me_touch_103 ?_
  refine g_iload_n C D_Me_touch_106 rfl 2 rfl ?_
  refine g_callVv (ci := 5) C [.inl v2] [] rfl rfl (fun _ h1 h2 h3 => c_Ru_append h1 h2 h3) rfl rfl wc_4_82 (by decide) (Nat.le_of_ble_eq_true rfl) D_Me_touch_107 (fun s4 _ => ?_)
  refine g_iload_n C D_Me_touch_110 rfl 3 rfl ?_
  refine g_bipush C D_Me_touch_111 (by decide) ⟨by decide, by decide⟩ ?_
  refine g_imul C D_Me_touch_113 (fun a5 => ?_)
  refine g_iload_n C D_Me_touch_114 rfl 1 rfl ?_
  refine g_bipush C D_Me_touch_115 (by decide) ⟨by decide, by decide⟩ ?_
  refine g_irem C D_Me_touch_117 ?_
  refine g_iadd C D_Me_touch_118 (fun a6 => ?_)
  exact g_iret C D_Me_touch_119
def j_Me_touch_72 (σ : gM) (v1 v2 v3 : Int) : gO :=
  gk (F_Me_arrive σ v2 v3) fun s1 _ =>
  j_Me_touch_78 s1 v1 v2 v3
set_option maxHeartbeats 4000000 in
theorem wj_Me_touch_72 {X : gX} (C : gC gctC prog_6_method_2_code kR4 4 4 100 (some .int) X) (σ : gM) (v1 v2 v3 : Int) : GG gctC X 72 [(0, .inr (.inr 17)), (1, .inl v1), (2, .inl v2), (3, .inl v3)] [] σ (j_Me_touch_72 σ v1 v2 v3) := by
  unfold j_Me_touch_72
  refine g_aload_n C D_Me_touch_72 rfl 0 rfl ?_
  refine g_iload_n C D_Me_touch_73 rfl 2 rfl ?_
  refine g_iload_n C D_Me_touch_74 rfl 3 rfl ?_
  refine g_callVv (ci := 4) C [.inl v2, .inl v3] [] rfl rfl (fun _ h1 h2 h3 => c_Me_arrive h1 h2 h3) rfl rfl wc_4_79 (by decide) (Nat.le_of_ble_eq_true rfl) D_Me_touch_75 (fun s1 _ => ?_)
  exact wj_Me_touch_78 C _ _ _ _
def F_Me_touch (σ : gM) (v1 : Int) : gO :=
  gd v1 32 <|
  gv (v1 / 32) fun a1 =>
  gi a1 32 <|
  gv (σ 18 a1) fun a2 =>
  ga ((σ 17 5) + 1) fun a3 =>
  gp σ 17 5 a3 fun s4 =>
  if a2 = (-4) then
  (gk (F_Le_add s4 6 1) fun s5 _ =>
  gk (F_Le_spend s5 6 20) fun s6 _ =>
  gk (F_Me_frameToFill s6) fun s7 a8 =>
  gi a8 16 <|
  if (s7 23 a8) = (-4) then
  (j_Me_touch_72 s7 v1 a1 a8)
  else
  (gk (F_Me_leave s7 a8 6) fun s9 _ =>
  j_Me_touch_72 s9 v1 a1 a8))
  else
  (j_Me_touch_78 s4 v1 a1 a2)
set_option maxHeartbeats 4000000 in
theorem w_Me_touch {X : gX} (C : gC gctC prog_6_method_2_code kR4 4 4 100 (some .int) X) (σ : gM) (v1 : Int) : GG gctC X 0 [(0, .inr (.inr 17)), (1, .inl v1)] [] σ (F_Me_touch σ v1) := by
  unfold F_Me_touch
  refine g_iload_n C D_Me_touch_0 rfl 1 rfl ?_
  refine g_bipush C D_Me_touch_1 (by decide) ⟨by decide, by decide⟩ ?_
  refine g_idiv C D_Me_touch_3 ?_
  refine g_let C (fun a1 => ?_)
  refine g_istore_n (L' := [(2, .inl a1), (0, .inr (.inr 17)), (1, .inl v1)]) C D_Me_touch_4 rfl (by decide) rfl ?_
  refine g_aload_n C D_Me_touch_5 rfl 1 rfl ?_
  refine g_getr (ci := 4) C 1 rfl kI4 rfl (by decide) rfl rfl wf_4_15 D_Me_touch_6 ?_
  refine g_iload_n C D_Me_touch_9 rfl 0 rfl ?_
  refine g_iald C rfl rfl rfl D_Me_touch_10 ?_
  refine g_let C (fun a2 => ?_)
  refine g_istore_n (L' := [(3, .inl a2), (2, .inl a1), (0, .inr (.inr 17)), (1, .inl v1)]) C D_Me_touch_11 rfl (by decide) rfl ?_
  refine g_aload_n C D_Me_touch_12 rfl 2 rfl ?_
  refine g_dup C D_Me_touch_13 rfl ?_
  refine g_get (ci := 4) C 5 (jz := 5) rfl rfl kI4 rfl (by decide) rfl rfl wf_4_60 rfl D_Me_touch_14 ?_
  refine g_iconst C D_Me_touch_17 ⟨by decide, by decide⟩ ?_
  refine g_iadd C D_Me_touch_18 (fun a3 => ?_)
  refine g_putI (ci := 4) C 5 (jz := 5) rfl rfl kI4 kO4 kN4 rfl (by decide) rfl rfl wf_4_60 D_Me_touch_19 (fun s4 => ?_)
  refine g_iload_n C D_Me_touch_22 rfl 0 rfl ?_
  refine g_bipush C D_Me_touch_23 (by decide) ⟨by decide, by decide⟩ ?_
  refine g_icmp_ne (tgt := 78) C D_Me_touch_25 (by decide) ?_ ?_
  · refine g_sub [2, 3, 1, 0] rfl ?_
    exact wj_Me_touch_78 C _ _ _ _
  · refine g_aload_n C D_Me_touch_28 rfl 2 rfl ?_
    refine g_getr (ci := 4) C 11 rfl kI4 rfl (by decide) rfl rfl wf_4_45 D_Me_touch_29 ?_
    refine g_bipush C D_Me_touch_32 (by decide) ⟨by decide, by decide⟩ ?_
    refine g_iconst C D_Me_touch_34 ⟨by decide, by decide⟩ ?_
    refine g_callVv (ci := 3) C [.inl 6, .inl 1] [] rfl rfl (fun _ h1 h2 h3 => c_Le_add h1 h2 h3) rfl rfl wc_4_63 (by decide) (Nat.le_of_ble_eq_true rfl) D_Me_touch_35 (fun s5 _ => ?_)
    refine g_aload_n C D_Me_touch_38 rfl 2 rfl ?_
    refine g_getr (ci := 4) C 11 rfl kI4 rfl (by decide) rfl rfl wf_4_45 D_Me_touch_39 ?_
    refine g_bipush C D_Me_touch_42 (by decide) ⟨by decide, by decide⟩ ?_
    refine g_bipush C D_Me_touch_44 (by decide) ⟨by decide, by decide⟩ ?_
    refine g_callVv (ci := 3) C [.inl 6, .inl 20] [] rfl rfl (fun _ h1 h2 h3 => c_Le_spend h1 h2 h3) rfl rfl wc_4_69 (by decide) (Nat.le_of_ble_eq_true rfl) D_Me_touch_46 (fun s6 _ => ?_)
    refine g_aload_n C D_Me_touch_49 rfl 2 rfl ?_
    refine g_callVi (ci := 4) C [] [] (Or.inl rfl) rfl (fun _ h1 h2 h3 => c_Me_frameToFill h1 h2 h3) rfl rfl wc_4_72 (by decide) (Nat.le_of_ble_eq_true rfl) D_Me_touch_50 (fun s7 a8 => ?_)
    refine g_istore_n (L' := [(3, .inl a8), (2, .inl a1), (0, .inr (.inr 17)), (1, .inl v1)]) C D_Me_touch_53 rfl (by decide) rfl ?_
    refine g_aload_n C D_Me_touch_54 rfl 2 rfl ?_
    refine g_getr (ci := 4) C 6 rfl kI4 rfl (by decide) rfl rfl wf_4_30 D_Me_touch_55 ?_
    refine g_iload_n C D_Me_touch_58 rfl 0 rfl ?_
    refine g_iald C rfl rfl rfl D_Me_touch_59 ?_
    refine g_bipush C D_Me_touch_60 (by decide) ⟨by decide, by decide⟩ ?_
    refine g_icmp_eq (tgt := 72) C D_Me_touch_62 (by decide) ?_ ?_
    · refine g_sub [2, 3, 1, 0] rfl ?_
      exact wj_Me_touch_72 C _ _ _ _
    · refine g_aload_n C D_Me_touch_65 rfl 2 rfl ?_
      refine g_iload_n C D_Me_touch_66 rfl 0 rfl ?_
      refine g_bipush C D_Me_touch_67 (by decide) ⟨by decide, by decide⟩ ?_
      refine g_callVv (ci := 4) C [.inl a8, .inl 6] [] rfl rfl (fun _ h1 h2 h3 => c_Me_leave h1 h2 h3) rfl rfl wc_4_76 (by decide) (Nat.le_of_ble_eq_true rfl) D_Me_touch_69 (fun s9 _ => ?_)
      refine g_sub [2, 3, 1, 0] rfl ?_
      exact wj_Me_touch_72 C _ _ _ _
theorem c_Me_touch {σ : gM} {v1 : Int} {r : gR} (ho : F_Me_touch σ v1 = some r) (hok : gOk [.inr (.inr 17), .inl v1]) (hin : gIn gctC σ) : gCt gctC Y_Me_touch prog_6_method_2_code 4 (some .int) 4 100 [.inr (.inr 17), .inl v1] σ r := g_entry (by decide) rfl (Nat.le_of_ble_eq_true rfl) ho hok hin (fun X C => w_Me_touch C σ v1)
theorem D_He_follow_0 : decode prog_4_method_15_code 0 = .ok (.iload_n 1, 1) := by decide +kernel
theorem D_He_follow_1 : decode prog_4_method_15_code 1 = .ok (.istore_n 2, 1) := by decide +kernel
theorem D_He_follow_2 : decode prog_4_method_15_code 2 = .ok (.iload_n 2, 1) := by decide +kernel
theorem D_He_follow_3 : decode prog_4_method_15_code 3 = .ok (.aload_n 0, 1) := by decide +kernel
theorem D_He_follow_4 : decode prog_4_method_15_code 4 = .ok (.getfield 99, 3) := by decide +kernel
theorem D_He_follow_7 : decode prog_4_method_15_code 7 = .ok (.if_icmp .ge 86, 3) := by decide +kernel
theorem D_He_follow_10 : decode prog_4_method_15_code 10 = .ok (.iload_n 2, 1) := by decide +kernel
theorem D_He_follow_11 : decode prog_4_method_15_code 11 = .ok (.bipush 40, 2) := by decide +kernel
theorem D_He_follow_13 : decode prog_4_method_15_code 13 = .ok (.if_icmp .ge 80, 3) := by decide +kernel
theorem D_He_follow_16 : decode prog_4_method_15_code 16 = .ok (.aload_n 0, 1) := by decide +kernel
theorem D_He_follow_17 : decode prog_4_method_15_code 17 = .ok (.getfield 34, 3) := by decide +kernel
theorem D_He_follow_20 : decode prog_4_method_15_code 20 = .ok (.iload_n 2, 1) := by decide +kernel
theorem D_He_follow_21 : decode prog_4_method_15_code 21 = .ok (.iaload, 1) := by decide +kernel
theorem D_He_follow_22 : decode prog_4_method_15_code 22 = .ok (.istore_n 3, 1) := by decide +kernel
theorem D_He_follow_23 : decode prog_4_method_15_code 23 = .ok (.iconst 0, 1) := by decide +kernel
theorem D_He_follow_24 : decode prog_4_method_15_code 24 = .ok (.istore 4, 2) := by decide +kernel
theorem D_He_follow_26 : decode prog_4_method_15_code 26 = .ok (.iload 4, 2) := by decide +kernel
theorem D_He_follow_28 : decode prog_4_method_15_code 28 = .ok (.aload_n 0, 1) := by decide +kernel
theorem D_He_follow_29 : decode prog_4_method_15_code 29 = .ok (.getfield 15, 3) := by decide +kernel
theorem D_He_follow_32 : decode prog_4_method_15_code 32 = .ok (.iload_n 3, 1) := by decide +kernel
theorem D_He_follow_33 : decode prog_4_method_15_code 33 = .ok (.iaload, 1) := by decide +kernel
theorem D_He_follow_34 : decode prog_4_method_15_code 34 = .ok (.if_icmp .ge 53, 3) := by decide +kernel
theorem D_He_follow_37 : decode prog_4_method_15_code 37 = .ok (.aload_n 0, 1) := by decide +kernel
theorem D_He_follow_38 : decode prog_4_method_15_code 38 = .ok (.getfield 44, 3) := by decide +kernel
theorem D_He_follow_41 : decode prog_4_method_15_code 41 = .ok (.iconst 0, 1) := by decide +kernel
theorem D_He_follow_42 : decode prog_4_method_15_code 42 = .ok (.aload_n 0, 1) := by decide +kernel
theorem D_He_follow_43 : decode prog_4_method_15_code 43 = .ok (.getfield 48, 3) := by decide +kernel
theorem D_He_follow_46 : decode prog_4_method_15_code 46 = .ok (.aload_n 0, 1) := by decide +kernel
theorem D_He_follow_47 : decode prog_4_method_15_code 47 = .ok (.getfield 9, 3) := by decide +kernel
theorem D_He_follow_50 : decode prog_4_method_15_code 50 = .ok (.iload_n 3, 1) := by decide +kernel
theorem D_He_follow_51 : decode prog_4_method_15_code 51 = .ok (.iaload, 1) := by decide +kernel
theorem D_He_follow_52 : decode prog_4_method_15_code 52 = .ok (.iload 4, 2) := by decide +kernel
theorem D_He_follow_54 : decode prog_4_method_15_code 54 = .ok (.iadd, 1) := by decide +kernel
theorem D_He_follow_55 : decode prog_4_method_15_code 55 = .ok (.invokevirtual 103, 3) := by decide +kernel
theorem D_He_follow_58 : decode prog_4_method_15_code 58 = .ok (.invokevirtual 108, 3) := by decide +kernel
theorem D_He_follow_61 : decode prog_4_method_15_code 61 = .ok (.istore 5, 2) := by decide +kernel
theorem D_He_follow_63 : decode prog_4_method_15_code 63 = .ok (.iload 5, 2) := by decide +kernel
theorem D_He_follow_65 : decode prog_4_method_15_code 65 = .ok (.sipush 128, 3) := by decide +kernel
theorem D_He_follow_68 : decode prog_4_method_15_code 68 = .ok (.if_icmp .lt 13, 3) := by decide +kernel
theorem D_He_follow_71 : decode prog_4_method_15_code 71 = .ok (.aload_n 0, 1) := by decide +kernel
theorem D_He_follow_72 : decode prog_4_method_15_code 72 = .ok (.iload 5, 2) := by decide +kernel
theorem D_He_follow_74 : decode prog_4_method_15_code 74 = .ok (.sipush 128, 3) := by decide +kernel
theorem D_He_follow_77 : decode prog_4_method_15_code 77 = .ok (.isub, 1) := by decide +kernel
theorem D_He_follow_78 : decode prog_4_method_15_code 78 = .ok (.invokevirtual 89, 3) := by decide +kernel
theorem D_He_follow_81 : decode prog_4_method_15_code 81 = .ok (.iinc 4 1, 3) := by decide +kernel
theorem D_He_follow_84 : decode prog_4_method_15_code 84 = .ok (.goto (-58), 3) := by decide +kernel
theorem D_He_follow_87 : decode prog_4_method_15_code 87 = .ok (.iinc 2 1, 3) := by decide +kernel
theorem D_He_follow_90 : decode prog_4_method_15_code 90 = .ok (.goto (-88), 3) := by decide +kernel
theorem D_He_follow_93 : decode prog_4_method_15_code 93 = .ok (.iload_n 2, 1) := by decide +kernel
theorem D_He_follow_94 : decode prog_4_method_15_code 94 = .ok (.ireturn, 1) := by decide +kernel
def j_He_follow_81 (k1 : gM → gO) (rec : gM → Int → gO) (σ : gM) (p2 p3 v4 : Int) : gO :=
  ga (v4 + 1) fun a1 =>
  rec σ a1
set_option maxHeartbeats 4000000 in
theorem wj_He_follow_81 {X : gX} (C : gC gctC prog_4_method_15_code kR2 6 5 123 (some .int) X) {p2 p3 : Int} {k1 : gM → gO} (hk1 : ∀ (σ : gM), GG gctC X 87 [(0, .inr (.inr 28)), (2, .inl p2)] [] σ (k1 σ)) {rec : gM → Int → gO} (hrec : ∀ (σ : gM) (a0 : Int), GG gctC X 26 [(0, .inr (.inr 28)), (2, .inl p2), (3, .inl p3), (4, .inl a0)] [] σ (rec σ a0)) (σ : gM) (v4 : Int) : GG gctC X 81 [(0, .inr (.inr 28)), (2, .inl p2), (3, .inl p3), (4, .inl v4)] [] σ (j_He_follow_81 k1 rec σ p2 p3 v4) := by
  unfold j_He_follow_81
  refine g_iinc (t := 3) (L' := fun z => [(4, .inl z), (0, .inr (.inr 28)), (2, .inl p2), (3, .inl p3)]) C D_He_follow_81 rfl (by decide) (fun _ => rfl) (fun a1 => ?_)
  refine g_goto (tgt := 26) C D_He_follow_84 (by decide) ?_
  refine g_sub [1, 2, 3, 0] rfl ?_
  exact hrec _ _
def l_He_follow_26 (k1 : gM → gO) (p2 p3 : Int) (rec : gM → Int → gO) (σ : gM) (v4 : Int) : gO :=
  gi p3 40 <|
  if v4 < (σ 30 p3) then
  (gi p3 40 <|
  ga ((σ 29 p3) + v4) fun a1 =>
  gk (F_Me_touch σ a1) fun s2 a3 =>
  gk (F_Ca_ask s2 0 a3) fun s4 a5 =>
  if a5 < 128 then
  (j_He_follow_81 k1 rec s4 p2 p3 v4)
  else
  (ga (a5 - 128) fun a6 =>
  gk (F_He_putBehind s4 a6) fun s7 _ =>
  j_He_follow_81 k1 rec s7 p2 p3 v4))
  else
  (k1 σ)
set_option maxHeartbeats 4000000 in
theorem wl_He_follow_26 {X : gX} (C : gC gctC prog_4_method_15_code kR2 6 5 123 (some .int) X) {p2 p3 : Int} {k1 : gM → gO} (hk1 : ∀ (σ : gM), GG gctC X 87 [(0, .inr (.inr 28)), (2, .inl p2)] [] σ (k1 σ)) : ∀ (n : Nat) (σ : gM) (a0 : Int), GG gctC X 26 [(0, .inr (.inr 28)), (2, .inl p2), (3, .inl p3), (4, .inl a0)] [] σ (gl1 (l_He_follow_26 k1 p2 p3) n σ a0) := by
  refine gl1_run (P := fun σ a0 o => GG gctC X 26 [(0, .inr (.inr 28)), (2, .inl p2), (3, .inl p3), (4, .inl a0)] [] σ o) (fun _ _ => g_none) (fun rec hrec σ v4 => ?_)
  unfold l_He_follow_26
  refine g_iload C D_He_follow_26 3 rfl ?_
  refine g_aload_n C D_He_follow_28 rfl 0 rfl ?_
  refine g_getr (ci := 2) C 1 rfl kI2 rfl (by decide) rfl rfl wf_2_15 D_He_follow_29 ?_
  refine g_iload_n C D_He_follow_32 rfl 2 rfl ?_
  refine g_iald C rfl rfl rfl D_He_follow_33 ?_
  refine g_icmp_ge (tgt := 87) C D_He_follow_34 (by decide) ?_ ?_
  · refine g_sub [0, 1] rfl ?_
    exact hk1 _
  · refine g_aload_n C D_He_follow_37 rfl 0 rfl ?_
    refine g_getr (ci := 2) C 11 rfl kI2 rfl (by decide) rfl rfl wf_2_44 D_He_follow_38 ?_
    refine g_iconst C D_He_follow_41 ⟨by decide, by decide⟩ ?_
    refine g_aload_n C D_He_follow_42 rfl 0 rfl ?_
    refine g_getr (ci := 2) C 12 rfl kI2 rfl (by decide) rfl rfl wf_2_48 D_He_follow_43 ?_
    refine g_aload_n C D_He_follow_46 rfl 0 rfl ?_
    refine g_getr (ci := 2) C 0 rfl kI2 rfl (by decide) rfl rfl wf_2_9 D_He_follow_47 ?_
    refine g_iload_n C D_He_follow_50 rfl 2 rfl ?_
    refine g_iald C rfl rfl rfl D_He_follow_51 ?_
    refine g_iload C D_He_follow_52 3 rfl ?_
    refine g_iadd C D_He_follow_54 (fun a1 => ?_)
    refine g_callVi (ci := 4) C [.inl a1] [.inl 0, .inr (.inr 9)] (Or.inl rfl) rfl (fun _ h1 h2 h3 => c_Me_touch h1 h2 h3) rfl rfl wc_2_103 (by decide) (Nat.le_of_ble_eq_true rfl) D_He_follow_55 (fun s2 a3 => ?_)
    refine g_callVi (ci := 0) C [.inl 0, .inl a3] [] (Or.inl rfl) rfl (fun _ h1 h2 h3 => c_Ca_ask h1 h2 h3) rfl rfl wc_2_108 (by decide) (Nat.le_of_ble_eq_true rfl) D_He_follow_58 (fun s4 a5 => ?_)
    refine g_istore (L' := [(5, .inl a5), (0, .inr (.inr 28)), (2, .inl p2), (3, .inl p3), (4, .inl v4)]) C D_He_follow_61 (by decide) rfl ?_
    refine g_iload C D_He_follow_63 0 rfl ?_
    refine g_sipush C D_He_follow_65 (by decide) ⟨by decide, by decide⟩ ?_
    refine g_icmp_lt (tgt := 81) C D_He_follow_68 (by decide) ?_ ?_
    · refine g_sub [1, 2, 3, 4] rfl ?_
      exact wj_He_follow_81 C hk1 hrec _ _
    · refine g_aload_n C D_He_follow_71 rfl 1 rfl ?_
      refine g_iload C D_He_follow_72 0 rfl ?_
      refine g_sipush C D_He_follow_74 (by decide) ⟨by decide, by decide⟩ ?_
      refine g_isub C D_He_follow_77 (fun a6 => ?_)
      refine g_callVv (ci := 2) C [.inl a6] [] rfl rfl (fun _ h1 h2 h3 => c_He_putBehind h1 h2 h3) rfl rfl wc_2_89 (by decide) (Nat.le_of_ble_eq_true rfl) D_He_follow_78 (fun s7 _ => ?_)
      refine g_sub [1, 2, 3, 4] rfl ?_
      exact wj_He_follow_81 C hk1 hrec _ _
def l_He_follow_2 (k1 : gM → Int → gO) (rec : gM → Int → gO) (σ : gM) (v2 : Int) : gO :=
  if v2 < (σ 28 9) then
  (if v2 < 40 then
  (gi v2 40 <|
  gv (σ 36 v2) fun a1 =>
  gl1 (l_He_follow_26 (fun s2 => ga (v2 + 1) fun a3 =>
  rec s2 a3) v2 a1) 200 σ 0)
  else
  (k1 σ v2))
  else
  (k1 σ v2)
set_option maxHeartbeats 4000000 in
theorem wl_He_follow_2 {X : gX} (C : gC gctC prog_4_method_15_code kR2 6 5 123 (some .int) X) {k1 : gM → Int → gO} (hk1 : ∀ (σ : gM) (a0 : Int), GG gctC X 93 [(2, .inl a0)] [] σ (k1 σ a0)) : ∀ (n : Nat) (σ : gM) (a0 : Int), GG gctC X 2 [(0, .inr (.inr 28)), (2, .inl a0)] [] σ (gl1 (l_He_follow_2 k1) n σ a0) := by
  refine gl1_run (P := fun σ a0 o => GG gctC X 2 [(0, .inr (.inr 28)), (2, .inl a0)] [] σ o) (fun _ _ => g_none) (fun rec hrec σ v2 => ?_)
  unfold l_He_follow_2
  refine g_iload_n C D_He_follow_2 rfl 1 rfl ?_
  refine g_aload_n C D_He_follow_3 rfl 0 rfl ?_
  refine g_get (ci := 2) C 9 (jz := 9) rfl rfl kI2 rfl (by decide) rfl rfl wf_2_99 rfl D_He_follow_4 ?_
  refine g_icmp_ge (tgt := 93) C D_He_follow_7 (by decide) ?_ ?_
  · refine g_sub [1] rfl ?_
    exact hk1 _ _
  · refine g_iload_n C D_He_follow_10 rfl 1 rfl ?_
    refine g_bipush C D_He_follow_11 (by decide) ⟨by decide, by decide⟩ ?_
    refine g_icmp_ge (tgt := 93) C D_He_follow_13 (by decide) ?_ ?_
    · refine g_sub [1] rfl ?_
      exact hk1 _ _
    · refine g_aload_n C D_He_follow_16 rfl 0 rfl ?_
      refine g_getr (ci := 2) C 7 rfl kI2 rfl (by decide) rfl rfl wf_2_34 D_He_follow_17 ?_
      refine g_iload_n C D_He_follow_20 rfl 1 rfl ?_
      refine g_iald C rfl rfl rfl D_He_follow_21 ?_
      refine g_let C (fun a1 => ?_)
      refine g_istore_n (L' := [(3, .inl a1), (0, .inr (.inr 28)), (2, .inl v2)]) C D_He_follow_22 rfl (by decide) rfl ?_
      refine g_iconst C D_He_follow_23 ⟨by decide, by decide⟩ ?_
      refine g_istore (L' := [(4, .inl 0), (3, .inl a1), (0, .inr (.inr 28)), (2, .inl v2)]) C D_He_follow_24 (by decide) rfl ?_
      refine g_sub [2, 3, 1, 0] rfl ?_
      exact wl_He_follow_26 C (fun s2 => by
          refine g_iinc (t := 1) (L' := fun z => [(2, .inl z), (0, .inr (.inr 28))]) C D_He_follow_87 rfl (by decide) (fun _ => rfl) (fun a3 => ?_)
          refine g_goto (tgt := 2) C D_He_follow_90 (by decide) ?_
          refine g_sub [1, 0] rfl ?_
          exact hrec _ _) 200 _ _
def j_He_follow_93 (σ : gM) (v2 : Int) : gO :=
  some (σ, v2)
set_option maxHeartbeats 4000000 in
theorem wj_He_follow_93 {X : gX} (C : gC gctC prog_4_method_15_code kR2 6 5 123 (some .int) X) (σ : gM) (v2 : Int) : GG gctC X 93 [(2, .inl v2)] [] σ (j_He_follow_93 σ v2) := by
  unfold j_He_follow_93
  refine g_iload_n C D_He_follow_93 rfl 0 rfl ?_
  exact g_iret C D_He_follow_94
def F_He_follow (σ : gM) (v1 : Int) : gO :=
  gl1 (l_He_follow_2 (fun s2 b1 => j_He_follow_93 s2 b1)) 200 σ v1
set_option maxHeartbeats 4000000 in
theorem w_He_follow {X : gX} (C : gC gctC prog_4_method_15_code kR2 6 5 123 (some .int) X) (σ : gM) (v1 : Int) : GG gctC X 0 [(0, .inr (.inr 28)), (1, .inl v1)] [] σ (F_He_follow σ v1) := by
  unfold F_He_follow
  refine g_iload_n C D_He_follow_0 rfl 1 rfl ?_
  refine g_istore_n (L' := [(2, .inl v1), (0, .inr (.inr 28)), (1, .inl v1)]) C D_He_follow_1 rfl (by decide) rfl ?_
  refine g_sub [1, 0] rfl ?_
  exact wl_He_follow_2 C (fun s2 b1 => by
      exact wj_He_follow_93 C _ _) 200 _ _
theorem c_He_follow {σ : gM} {v1 : Int} {r : gR} (ho : F_He_follow σ v1 = some r) (hok : gOk [.inr (.inr 28), .inl v1]) (hin : gIn gctC σ) : gCt gctC Y_He_follow prog_4_method_15_code 6 (some .int) 5 123 [.inr (.inr 28), .inl v1] σ r := g_entry (by decide) rfl (Nat.le_of_ble_eq_true rfl) ho hok hin (fun X C => w_He_follow C σ v1)
theorem D_He_buryOthers_0 : decode prog_4_method_16_code 0 = .ok (.iconst 0, 1) := by decide +kernel
theorem D_He_buryOthers_1 : decode prog_4_method_16_code 1 = .ok (.istore_n 1, 1) := by decide +kernel
theorem D_He_buryOthers_2 : decode prog_4_method_16_code 2 = .ok (.iconst 0, 1) := by decide +kernel
theorem D_He_buryOthers_3 : decode prog_4_method_16_code 3 = .ok (.istore_n 2, 1) := by decide +kernel
theorem D_He_buryOthers_4 : decode prog_4_method_16_code 4 = .ok (.iload_n 2, 1) := by decide +kernel
theorem D_He_buryOthers_5 : decode prog_4_method_16_code 5 = .ok (.bipush 40, 2) := by decide +kernel
theorem D_He_buryOthers_7 : decode prog_4_method_16_code 7 = .ok (.if_icmp .ge 70, 3) := by decide +kernel
theorem D_He_buryOthers_10 : decode prog_4_method_16_code 10 = .ok (.aload_n 0, 1) := by decide +kernel
theorem D_He_buryOthers_11 : decode prog_4_method_16_code 11 = .ok (.iload_n 2, 1) := by decide +kernel
theorem D_He_buryOthers_12 : decode prog_4_method_16_code 12 = .ok (.invokevirtual 55, 3) := by decide +kernel
theorem D_He_buryOthers_15 : decode prog_4_method_16_code 15 = .ok (.ifCond .eq 56, 3) := by decide +kernel
theorem D_He_buryOthers_18 : decode prog_4_method_16_code 18 = .ok (.aload_n 0, 1) := by decide +kernel
theorem D_He_buryOthers_19 : decode prog_4_method_16_code 19 = .ok (.getfield 37, 3) := by decide +kernel
theorem D_He_buryOthers_22 : decode prog_4_method_16_code 22 = .ok (.iload_n 2, 1) := by decide +kernel
theorem D_He_buryOthers_23 : decode prog_4_method_16_code 23 = .ok (.baload, 1) := by decide +kernel
theorem D_He_buryOthers_24 : decode prog_4_method_16_code 24 = .ok (.ifCond .eq 6, 3) := by decide +kernel
theorem D_He_buryOthers_27 : decode prog_4_method_16_code 27 = .ok (.goto 44, 3) := by decide +kernel
theorem D_He_buryOthers_30 : decode prog_4_method_16_code 30 = .ok (.aload_n 0, 1) := by decide +kernel
theorem D_He_buryOthers_31 : decode prog_4_method_16_code 31 = .ok (.getfield 9, 3) := by decide +kernel
theorem D_He_buryOthers_34 : decode prog_4_method_16_code 34 = .ok (.iload_n 2, 1) := by decide +kernel
theorem D_He_buryOthers_35 : decode prog_4_method_16_code 35 = .ok (.bipush (-4), 2) := by decide +kernel
theorem D_He_buryOthers_37 : decode prog_4_method_16_code 37 = .ok (.iastore, 1) := by decide +kernel
theorem D_He_buryOthers_38 : decode prog_4_method_16_code 38 = .ok (.iinc 1 1, 3) := by decide +kernel
theorem D_He_buryOthers_41 : decode prog_4_method_16_code 41 = .ok (.iconst 0, 1) := by decide +kernel
theorem D_He_buryOthers_42 : decode prog_4_method_16_code 42 = .ok (.istore_n 3, 1) := by decide +kernel
theorem D_He_buryOthers_43 : decode prog_4_method_16_code 43 = .ok (.iload_n 3, 1) := by decide +kernel
theorem D_He_buryOthers_44 : decode prog_4_method_16_code 44 = .ok (.iconst 4, 1) := by decide +kernel
theorem D_He_buryOthers_45 : decode prog_4_method_16_code 45 = .ok (.if_icmp .ge 26, 3) := by decide +kernel
theorem D_He_buryOthers_48 : decode prog_4_method_16_code 48 = .ok (.aload_n 0, 1) := by decide +kernel
theorem D_He_buryOthers_49 : decode prog_4_method_16_code 49 = .ok (.getfield 31, 3) := by decide +kernel
theorem D_He_buryOthers_52 : decode prog_4_method_16_code 52 = .ok (.iload_n 3, 1) := by decide +kernel
theorem D_He_buryOthers_53 : decode prog_4_method_16_code 53 = .ok (.iaload, 1) := by decide +kernel
theorem D_He_buryOthers_54 : decode prog_4_method_16_code 54 = .ok (.iload_n 2, 1) := by decide +kernel
theorem D_He_buryOthers_55 : decode prog_4_method_16_code 55 = .ok (.if_icmp .ne 10, 3) := by decide +kernel
theorem D_He_buryOthers_58 : decode prog_4_method_16_code 58 = .ok (.aload_n 0, 1) := by decide +kernel
theorem D_He_buryOthers_59 : decode prog_4_method_16_code 59 = .ok (.getfield 31, 3) := by decide +kernel
theorem D_He_buryOthers_62 : decode prog_4_method_16_code 62 = .ok (.iload_n 3, 1) := by decide +kernel
theorem D_He_buryOthers_63 : decode prog_4_method_16_code 63 = .ok (.iconst (-1), 1) := by decide +kernel
theorem D_He_buryOthers_64 : decode prog_4_method_16_code 64 = .ok (.iastore, 1) := by decide +kernel
theorem D_He_buryOthers_65 : decode prog_4_method_16_code 65 = .ok (.iinc 3 1, 3) := by decide +kernel
theorem D_He_buryOthers_68 : decode prog_4_method_16_code 68 = .ok (.goto (-25), 3) := by decide +kernel
theorem D_He_buryOthers_71 : decode prog_4_method_16_code 71 = .ok (.iinc 2 1, 3) := by decide +kernel
theorem D_He_buryOthers_74 : decode prog_4_method_16_code 74 = .ok (.goto (-70), 3) := by decide +kernel
theorem D_He_buryOthers_77 : decode prog_4_method_16_code 77 = .ok (.aload_n 0, 1) := by decide +kernel
theorem D_He_buryOthers_78 : decode prog_4_method_16_code 78 = .ok (.getfield 40, 3) := by decide +kernel
theorem D_He_buryOthers_81 : decode prog_4_method_16_code 81 = .ok (.bipush 12, 2) := by decide +kernel
theorem D_He_buryOthers_83 : decode prog_4_method_16_code 83 = .ok (.iload_n 1, 1) := by decide +kernel
theorem D_He_buryOthers_84 : decode prog_4_method_16_code 84 = .ok (.invokevirtual 59, 3) := by decide +kernel
theorem D_He_buryOthers_87 : decode prog_4_method_16_code 87 = .ok (.aload_n 0, 1) := by decide +kernel
theorem D_He_buryOthers_88 : decode prog_4_method_16_code 88 = .ok (.getfield 40, 3) := by decide +kernel
theorem D_He_buryOthers_91 : decode prog_4_method_16_code 91 = .ok (.bipush 11, 2) := by decide +kernel
theorem D_He_buryOthers_93 : decode prog_4_method_16_code 93 = .ok (.iload_n 1, 1) := by decide +kernel
theorem D_He_buryOthers_94 : decode prog_4_method_16_code 94 = .ok (.ineg, 1) := by decide +kernel
theorem D_He_buryOthers_95 : decode prog_4_method_16_code 95 = .ok (.invokevirtual 59, 3) := by decide +kernel
theorem D_He_buryOthers_98 : decode prog_4_method_16_code 98 = .ok (.iload_n 1, 1) := by decide +kernel
theorem D_He_buryOthers_99 : decode prog_4_method_16_code 99 = .ok (.ireturn, 1) := by decide +kernel
def j_He_buryOthers_71 (k1 : gM → Int → gO) (rec : gM → Int → Int → gO) (σ : gM) (v1 v2 : Int) : gO :=
  ga (v2 + 1) fun a1 =>
  rec σ v1 a1
set_option maxHeartbeats 4000000 in
theorem wj_He_buryOthers_71 {X : gX} (C : gC gctC prog_4_method_16_code kR2 4 1 22 (some .int) X) {k1 : gM → Int → gO} (hk1 : ∀ (σ : gM) (a0 : Int), GG gctC X 77 [(0, .inr (.inr 28)), (1, .inl a0)] [] σ (k1 σ a0)) {rec : gM → Int → Int → gO} (hrec : ∀ (σ : gM) (a0 a1 : Int), GG gctC X 4 [(0, .inr (.inr 28)), (1, .inl a0), (2, .inl a1)] [] σ (rec σ a0 a1)) (σ : gM) (v1 v2 : Int) : GG gctC X 71 [(0, .inr (.inr 28)), (1, .inl v1), (2, .inl v2)] [] σ (j_He_buryOthers_71 k1 rec σ v1 v2) := by
  unfold j_He_buryOthers_71
  refine g_iinc (t := 2) (L' := fun z => [(2, .inl z), (0, .inr (.inr 28)), (1, .inl v1)]) C D_He_buryOthers_71 rfl (by decide) (fun _ => rfl) (fun a1 => ?_)
  refine g_goto (tgt := 4) C D_He_buryOthers_74 (by decide) ?_
  refine g_sub [1, 2, 0] rfl ?_
  exact hrec _ _ _
def j_He_buryOthers_65 (k1 : gM → gO) (rec : gM → Int → gO) (σ : gM) (p1 p2 v3 : Int) : gO :=
  ga (v3 + 1) fun a1 =>
  rec σ a1
set_option maxHeartbeats 4000000 in
theorem wj_He_buryOthers_65 {X : gX} (C : gC gctC prog_4_method_16_code kR2 4 1 22 (some .int) X) {p1 p2 : Int} {k1 : gM → gO} (hk1 : ∀ (σ : gM), GG gctC X 71 [(0, .inr (.inr 28)), (1, .inl p1), (2, .inl p2)] [] σ (k1 σ)) {rec : gM → Int → gO} (hrec : ∀ (σ : gM) (a0 : Int), GG gctC X 43 [(0, .inr (.inr 28)), (1, .inl p1), (2, .inl p2), (3, .inl a0)] [] σ (rec σ a0)) (σ : gM) (v3 : Int) : GG gctC X 65 [(0, .inr (.inr 28)), (1, .inl p1), (2, .inl p2), (3, .inl v3)] [] σ (j_He_buryOthers_65 k1 rec σ p1 p2 v3) := by
  unfold j_He_buryOthers_65
  refine g_iinc (t := 3) (L' := fun z => [(3, .inl z), (0, .inr (.inr 28)), (1, .inl p1), (2, .inl p2)]) C D_He_buryOthers_65 rfl (by decide) (fun _ => rfl) (fun a1 => ?_)
  refine g_goto (tgt := 43) C D_He_buryOthers_68 (by decide) ?_
  refine g_sub [1, 2, 3, 0] rfl ?_
  exact hrec _ _
def l_He_buryOthers_43 (k1 : gM → gO) (p1 p2 : Int) (rec : gM → Int → gO) (σ : gM) (v3 : Int) : gO :=
  if v3 < 4 then
  (gi v3 4 <|
  if (σ 35 v3) = p2 then
  (gw σ 35 4 v3 (-1) fun s1 =>
  j_He_buryOthers_65 k1 rec s1 p1 p2 v3)
  else
  (j_He_buryOthers_65 k1 rec σ p1 p2 v3))
  else
  (k1 σ)
set_option maxHeartbeats 4000000 in
theorem wl_He_buryOthers_43 {X : gX} (C : gC gctC prog_4_method_16_code kR2 4 1 22 (some .int) X) {p1 p2 : Int} {k1 : gM → gO} (hk1 : ∀ (σ : gM), GG gctC X 71 [(0, .inr (.inr 28)), (1, .inl p1), (2, .inl p2)] [] σ (k1 σ)) : ∀ (n : Nat) (σ : gM) (a0 : Int), GG gctC X 43 [(0, .inr (.inr 28)), (1, .inl p1), (2, .inl p2), (3, .inl a0)] [] σ (gl1 (l_He_buryOthers_43 k1 p1 p2) n σ a0) := by
  refine gl1_run (P := fun σ a0 o => GG gctC X 43 [(0, .inr (.inr 28)), (1, .inl p1), (2, .inl p2), (3, .inl a0)] [] σ o) (fun _ _ => g_none) (fun rec hrec σ v3 => ?_)
  unfold l_He_buryOthers_43
  refine g_iload_n C D_He_buryOthers_43 rfl 3 rfl ?_
  refine g_iconst C D_He_buryOthers_44 ⟨by decide, by decide⟩ ?_
  refine g_icmp_ge (tgt := 71) C D_He_buryOthers_45 (by decide) ?_ ?_
  · refine g_sub [0, 1, 2] rfl ?_
    exact hk1 _
  · refine g_aload_n C D_He_buryOthers_48 rfl 0 rfl ?_
    refine g_getr (ci := 2) C 6 rfl kI2 rfl (by decide) rfl rfl wf_2_31 D_He_buryOthers_49 ?_
    refine g_iload_n C D_He_buryOthers_52 rfl 3 rfl ?_
    refine g_iald C rfl rfl rfl D_He_buryOthers_53 ?_
    refine g_iload_n C D_He_buryOthers_54 rfl 2 rfl ?_
    refine g_icmp_ne (tgt := 65) C D_He_buryOthers_55 (by decide) ?_ ?_
    · exact wj_He_buryOthers_65 C hk1 hrec _ _
    · refine g_aload_n C D_He_buryOthers_58 rfl 0 rfl ?_
      refine g_getr (ci := 2) C 6 rfl kI2 rfl (by decide) rfl rfl wf_2_31 D_He_buryOthers_59 ?_
      refine g_iload_n C D_He_buryOthers_62 rfl 3 rfl ?_
      refine g_iconst C D_He_buryOthers_63 ⟨by decide, by decide⟩ ?_
      refine g_iast C rfl rfl D_He_buryOthers_64 (fun s1 => ?_)
      exact wj_He_buryOthers_65 C hk1 hrec _ _
def l_He_buryOthers_4 (k1 : gM → Int → gO) (rec : gM → Int → Int → gO) (σ : gM) (v1 v2 : Int) : gO :=
  if v2 < 40 then
  (gk (F_He_has σ v2) fun s1 a2 =>
  if a2 = 0 then
  (j_He_buryOthers_71 k1 rec s1 v1 v2)
  else
  (gi v2 40 <|
  if (s1 37 v2) = 0 then
  (gw s1 29 40 v2 (-4) fun s3 =>
  ga (v1 + 1) fun a4 =>
  gl1 (l_He_buryOthers_43 (fun s5 => j_He_buryOthers_71 k1 rec s5 a4 v2) a4 v2) 200 s3 0)
  else
  (j_He_buryOthers_71 k1 rec s1 v1 v2)))
  else
  (k1 σ v1)
set_option maxHeartbeats 4000000 in
theorem wl_He_buryOthers_4 {X : gX} (C : gC gctC prog_4_method_16_code kR2 4 1 22 (some .int) X) {k1 : gM → Int → gO} (hk1 : ∀ (σ : gM) (a0 : Int), GG gctC X 77 [(0, .inr (.inr 28)), (1, .inl a0)] [] σ (k1 σ a0)) : ∀ (n : Nat) (σ : gM) (a0 a1 : Int), GG gctC X 4 [(0, .inr (.inr 28)), (1, .inl a0), (2, .inl a1)] [] σ (gl2 (l_He_buryOthers_4 k1) n σ a0 a1) := by
  refine gl2_run (P := fun σ a0 a1 o => GG gctC X 4 [(0, .inr (.inr 28)), (1, .inl a0), (2, .inl a1)] [] σ o) (fun _ _ _ => g_none) (fun rec hrec σ v1 v2 => ?_)
  unfold l_He_buryOthers_4
  refine g_iload_n C D_He_buryOthers_4 rfl 2 rfl ?_
  refine g_bipush C D_He_buryOthers_5 (by decide) ⟨by decide, by decide⟩ ?_
  refine g_icmp_ge (tgt := 77) C D_He_buryOthers_7 (by decide) ?_ ?_
  · refine g_sub [0, 1] rfl ?_
    exact hk1 _ _
  · refine g_aload_n C D_He_buryOthers_10 rfl 0 rfl ?_
    refine g_iload_n C D_He_buryOthers_11 rfl 2 rfl ?_
    refine g_callVi (ci := 2) C [.inl v2] [] (Or.inr rfl) rfl (fun _ h1 h2 h3 => c_He_has h1 h2 h3) rfl rfl wc_2_55 (by decide) (Nat.le_of_ble_eq_true rfl) D_He_buryOthers_12 (fun s1 a2 => ?_)
    refine g_if_eq (tgt := 71) C D_He_buryOthers_15 (by decide) ?_ ?_
    · exact wj_He_buryOthers_71 C hk1 hrec _ _ _
    · refine g_aload_n C D_He_buryOthers_18 rfl 0 rfl ?_
      refine g_getr (ci := 2) C 8 rfl kI2 rfl (by decide) rfl rfl wf_2_37 D_He_buryOthers_19 ?_
      refine g_iload_n C D_He_buryOthers_22 rfl 2 rfl ?_
      refine g_zald C rfl rfl rfl D_He_buryOthers_23 ?_
      refine g_if_eq (tgt := 30) C D_He_buryOthers_24 (by decide) ?_ ?_
      · refine g_aload_n C D_He_buryOthers_30 rfl 0 rfl ?_
        refine g_getr (ci := 2) C 0 rfl kI2 rfl (by decide) rfl rfl wf_2_9 D_He_buryOthers_31 ?_
        refine g_iload_n C D_He_buryOthers_34 rfl 2 rfl ?_
        refine g_bipush C D_He_buryOthers_35 (by decide) ⟨by decide, by decide⟩ ?_
        refine g_iast C rfl rfl D_He_buryOthers_37 (fun s3 => ?_)
        refine g_iinc (t := 1) (L' := fun z => [(1, .inl z), (0, .inr (.inr 28)), (2, .inl v2)]) C D_He_buryOthers_38 rfl (by decide) (fun _ => rfl) (fun a4 => ?_)
        refine g_iconst C D_He_buryOthers_41 ⟨by decide, by decide⟩ ?_
        refine g_istore_n (L' := [(3, .inl 0), (1, .inl a4), (0, .inr (.inr 28)), (2, .inl v2)]) C D_He_buryOthers_42 rfl (by decide) rfl ?_
        refine g_sub [2, 1, 3, 0] rfl ?_
        exact wl_He_buryOthers_43 C (fun s5 => by
            exact wj_He_buryOthers_71 C hk1 hrec _ _ _) 200 _ _
      · refine g_goto (tgt := 71) C D_He_buryOthers_27 (by decide) ?_
        exact wj_He_buryOthers_71 C hk1 hrec _ _ _
def F_He_buryOthers (σ : gM) : gO :=
  gl2 (l_He_buryOthers_4 (fun s2 b1 => gk (F_Le_add s2 12 b1) fun s3 _ =>
  ga (-b1) fun a4 =>
  gk (F_Le_add s3 11 a4) fun s5 _ =>
  some (s5, b1))) 200 σ 0 0
set_option maxHeartbeats 4000000 in
theorem w_He_buryOthers {X : gX} (C : gC gctC prog_4_method_16_code kR2 4 1 22 (some .int) X) (σ : gM) : GG gctC X 0 [(0, .inr (.inr 28))] [] σ (F_He_buryOthers σ) := by
  unfold F_He_buryOthers
  refine g_iconst C D_He_buryOthers_0 ⟨by decide, by decide⟩ ?_
  refine g_istore_n (L' := [(1, .inl 0), (0, .inr (.inr 28))]) C D_He_buryOthers_1 rfl (by decide) rfl ?_
  refine g_iconst C D_He_buryOthers_2 ⟨by decide, by decide⟩ ?_
  refine g_istore_n (L' := [(2, .inl 0), (1, .inl 0), (0, .inr (.inr 28))]) C D_He_buryOthers_3 rfl (by decide) rfl ?_
  refine g_sub [2, 1, 0] rfl ?_
  exact wl_He_buryOthers_4 C (fun s2 b1 => by
      refine g_aload_n C D_He_buryOthers_77 rfl 0 rfl ?_
      refine g_getr (ci := 2) C 10 rfl kI2 rfl (by decide) rfl rfl wf_2_40 D_He_buryOthers_78 ?_
      refine g_bipush C D_He_buryOthers_81 (by decide) ⟨by decide, by decide⟩ ?_
      refine g_iload_n C D_He_buryOthers_83 rfl 1 rfl ?_
      refine g_callVv (ci := 3) C [.inl 12, .inl b1] [] rfl rfl (fun _ h1 h2 h3 => c_Le_add h1 h2 h3) rfl rfl wc_2_59 (by decide) (Nat.le_of_ble_eq_true rfl) D_He_buryOthers_84 (fun s3 _ => ?_)
      refine g_aload_n C D_He_buryOthers_87 rfl 0 rfl ?_
      refine g_getr (ci := 2) C 10 rfl kI2 rfl (by decide) rfl rfl wf_2_40 D_He_buryOthers_88 ?_
      refine g_bipush C D_He_buryOthers_91 (by decide) ⟨by decide, by decide⟩ ?_
      refine g_iload_n C D_He_buryOthers_93 rfl 1 rfl ?_
      refine g_ineg C D_He_buryOthers_94 (fun a4 => ?_)
      refine g_callVv (ci := 3) C [.inl 11, .inl a4] [] rfl rfl (fun _ h1 h2 h3 => c_Le_add h1 h2 h3) rfl rfl wc_2_59 (by decide) (Nat.le_of_ble_eq_true rfl) D_He_buryOthers_95 (fun s5 _ => ?_)
      refine g_iload_n C D_He_buryOthers_98 rfl 1 rfl ?_
      exact g_iret C D_He_buryOthers_99) 200 _ _ _
theorem c_He_buryOthers {σ : gM} {r : gR} (ho : F_He_buryOthers σ = some r) (hok : gOk [.inr (.inr 28)]) (hin : gIn gctC σ) : gCt gctC Y_He_buryOthers prog_4_method_16_code 4 (some .int) 1 22 [.inr (.inr 28)] σ r := g_entry (by decide) rfl (Nat.le_of_ble_eq_true rfl) ho hok hin (fun X C => w_He_buryOthers C σ)
theorem D_He_closeUp_0 : decode prog_4_method_17_code 0 = .ok (.iconst 0, 1) := by decide +kernel
theorem D_He_closeUp_1 : decode prog_4_method_17_code 1 = .ok (.istore_n 1, 1) := by decide +kernel
theorem D_He_closeUp_2 : decode prog_4_method_17_code 2 = .ok (.iconst 0, 1) := by decide +kernel
theorem D_He_closeUp_3 : decode prog_4_method_17_code 3 = .ok (.istore_n 2, 1) := by decide +kernel
theorem D_He_closeUp_4 : decode prog_4_method_17_code 4 = .ok (.iload_n 2, 1) := by decide +kernel
theorem D_He_closeUp_5 : decode prog_4_method_17_code 5 = .ok (.aload_n 0, 1) := by decide +kernel
theorem D_He_closeUp_6 : decode prog_4_method_17_code 6 = .ok (.getfield 99, 3) := by decide +kernel
theorem D_He_closeUp_9 : decode prog_4_method_17_code 9 = .ok (.if_icmp .ge 137, 3) := by decide +kernel
theorem D_He_closeUp_12 : decode prog_4_method_17_code 12 = .ok (.aload_n 0, 1) := by decide +kernel
theorem D_He_closeUp_13 : decode prog_4_method_17_code 13 = .ok (.iload_n 1, 1) := by decide +kernel
theorem D_He_closeUp_14 : decode prog_4_method_17_code 14 = .ok (.invokevirtual 65, 3) := by decide +kernel
theorem D_He_closeUp_17 : decode prog_4_method_17_code 17 = .ok (.istore_n 3, 1) := by decide +kernel
theorem D_He_closeUp_18 : decode prog_4_method_17_code 18 = .ok (.iload_n 3, 1) := by decide +kernel
theorem D_He_closeUp_19 : decode prog_4_method_17_code 19 = .ok (.iconst (-1), 1) := by decide +kernel
theorem D_He_closeUp_20 : decode prog_4_method_17_code 20 = .ok (.if_icmp .ne 4, 3) := by decide +kernel
theorem D_He_closeUp_23 : decode prog_4_method_17_code 23 = .ok (.return_, 1) := by decide +kernel
theorem D_He_closeUp_24 : decode prog_4_method_17_code 24 = .ok (.aload_n 0, 1) := by decide +kernel
theorem D_He_closeUp_25 : decode prog_4_method_17_code 25 = .ok (.getfield 9, 3) := by decide +kernel
theorem D_He_closeUp_28 : decode prog_4_method_17_code 28 = .ok (.iload_n 3, 1) := by decide +kernel
theorem D_He_closeUp_29 : decode prog_4_method_17_code 29 = .ok (.iaload, 1) := by decide +kernel
theorem D_He_closeUp_30 : decode prog_4_method_17_code 30 = .ok (.istore 4, 2) := by decide +kernel
theorem D_He_closeUp_32 : decode prog_4_method_17_code 32 = .ok (.iconst 0, 1) := by decide +kernel
theorem D_He_closeUp_33 : decode prog_4_method_17_code 33 = .ok (.istore 5, 2) := by decide +kernel
theorem D_He_closeUp_35 : decode prog_4_method_17_code 35 = .ok (.iload 4, 2) := by decide +kernel
theorem D_He_closeUp_37 : decode prog_4_method_17_code 37 = .ok (.iload_n 1, 1) := by decide +kernel
theorem D_He_closeUp_38 : decode prog_4_method_17_code 38 = .ok (.if_icmp .eq 83, 3) := by decide +kernel
theorem D_He_closeUp_41 : decode prog_4_method_17_code 41 = .ok (.iload 5, 2) := by decide +kernel
theorem D_He_closeUp_43 : decode prog_4_method_17_code 43 = .ok (.aload_n 0, 1) := by decide +kernel
theorem D_He_closeUp_44 : decode prog_4_method_17_code 44 = .ok (.getfield 15, 3) := by decide +kernel
theorem D_He_closeUp_47 : decode prog_4_method_17_code 47 = .ok (.iload_n 3, 1) := by decide +kernel
theorem D_He_closeUp_48 : decode prog_4_method_17_code 48 = .ok (.iaload, 1) := by decide +kernel
theorem D_He_closeUp_49 : decode prog_4_method_17_code 49 = .ok (.if_icmp .ge 72, 3) := by decide +kernel
theorem D_He_closeUp_52 : decode prog_4_method_17_code 52 = .ok (.aload_n 0, 1) := by decide +kernel
theorem D_He_closeUp_53 : decode prog_4_method_17_code 53 = .ok (.getfield 44, 3) := by decide +kernel
theorem D_He_closeUp_56 : decode prog_4_method_17_code 56 = .ok (.iconst 0, 1) := by decide +kernel
theorem D_He_closeUp_57 : decode prog_4_method_17_code 57 = .ok (.aload_n 0, 1) := by decide +kernel
theorem D_He_closeUp_58 : decode prog_4_method_17_code 58 = .ok (.getfield 48, 3) := by decide +kernel
theorem D_He_closeUp_61 : decode prog_4_method_17_code 61 = .ok (.iload 4, 2) := by decide +kernel
theorem D_He_closeUp_63 : decode prog_4_method_17_code 63 = .ok (.iload 5, 2) := by decide +kernel
theorem D_He_closeUp_65 : decode prog_4_method_17_code 65 = .ok (.iadd, 1) := by decide +kernel
theorem D_He_closeUp_66 : decode prog_4_method_17_code 66 = .ok (.invokevirtual 103, 3) := by decide +kernel
theorem D_He_closeUp_69 : decode prog_4_method_17_code 69 = .ok (.invokevirtual 108, 3) := by decide +kernel
theorem D_He_closeUp_72 : decode prog_4_method_17_code 72 = .ok (.istore 6, 2) := by decide +kernel
theorem D_He_closeUp_74 : decode prog_4_method_17_code 74 = .ok (.iload 6, 2) := by decide +kernel
theorem D_He_closeUp_76 : decode prog_4_method_17_code 76 = .ok (.bipush (-5), 2) := by decide +kernel
theorem D_He_closeUp_78 : decode prog_4_method_17_code 78 = .ok (.if_icmp .ne 6, 3) := by decide +kernel
theorem D_He_closeUp_81 : decode prog_4_method_17_code 81 = .ok (.goto 34, 3) := by decide +kernel
theorem D_He_closeUp_84 : decode prog_4_method_17_code 84 = .ok (.aload_n 0, 1) := by decide +kernel
theorem D_He_closeUp_85 : decode prog_4_method_17_code 85 = .ok (.getfield 44, 3) := by decide +kernel
theorem D_He_closeUp_88 : decode prog_4_method_17_code 88 = .ok (.iconst 0, 1) := by decide +kernel
theorem D_He_closeUp_89 : decode prog_4_method_17_code 89 = .ok (.aload_n 0, 1) := by decide +kernel
theorem D_He_closeUp_90 : decode prog_4_method_17_code 90 = .ok (.getfield 48, 3) := by decide +kernel
theorem D_He_closeUp_93 : decode prog_4_method_17_code 93 = .ok (.iload_n 1, 1) := by decide +kernel
theorem D_He_closeUp_94 : decode prog_4_method_17_code 94 = .ok (.iload 5, 2) := by decide +kernel
theorem D_He_closeUp_96 : decode prog_4_method_17_code 96 = .ok (.iadd, 1) := by decide +kernel
theorem D_He_closeUp_97 : decode prog_4_method_17_code 97 = .ok (.invokevirtual 103, 3) := by decide +kernel
theorem D_He_closeUp_100 : decode prog_4_method_17_code 100 = .ok (.iload 6, 2) := by decide +kernel
theorem D_He_closeUp_102 : decode prog_4_method_17_code 102 = .ok (.invokevirtual 114, 3) := by decide +kernel
theorem D_He_closeUp_105 : decode prog_4_method_17_code 105 = .ok (.aload_n 0, 1) := by decide +kernel
theorem D_He_closeUp_106 : decode prog_4_method_17_code 106 = .ok (.getfield 40, 3) := by decide +kernel
theorem D_He_closeUp_109 : decode prog_4_method_17_code 109 = .ok (.bipush 15, 2) := by decide +kernel
theorem D_He_closeUp_111 : decode prog_4_method_17_code 111 = .ok (.iconst 1, 1) := by decide +kernel
theorem D_He_closeUp_112 : decode prog_4_method_17_code 112 = .ok (.invokevirtual 59, 3) := by decide +kernel
theorem D_He_closeUp_115 : decode prog_4_method_17_code 115 = .ok (.iinc 5 1, 3) := by decide +kernel
theorem D_He_closeUp_118 : decode prog_4_method_17_code 118 = .ok (.goto (-83), 3) := by decide +kernel
theorem D_He_closeUp_121 : decode prog_4_method_17_code 121 = .ok (.aload_n 0, 1) := by decide +kernel
theorem D_He_closeUp_122 : decode prog_4_method_17_code 122 = .ok (.getfield 9, 3) := by decide +kernel
theorem D_He_closeUp_125 : decode prog_4_method_17_code 125 = .ok (.iload_n 3, 1) := by decide +kernel
theorem D_He_closeUp_126 : decode prog_4_method_17_code 126 = .ok (.iload_n 1, 1) := by decide +kernel
theorem D_He_closeUp_127 : decode prog_4_method_17_code 127 = .ok (.iastore, 1) := by decide +kernel
theorem D_He_closeUp_128 : decode prog_4_method_17_code 128 = .ok (.iload_n 1, 1) := by decide +kernel
theorem D_He_closeUp_129 : decode prog_4_method_17_code 129 = .ok (.aload_n 0, 1) := by decide +kernel
theorem D_He_closeUp_130 : decode prog_4_method_17_code 130 = .ok (.getfield 15, 3) := by decide +kernel
theorem D_He_closeUp_133 : decode prog_4_method_17_code 133 = .ok (.iload_n 3, 1) := by decide +kernel
theorem D_He_closeUp_134 : decode prog_4_method_17_code 134 = .ok (.iaload, 1) := by decide +kernel
theorem D_He_closeUp_135 : decode prog_4_method_17_code 135 = .ok (.invokestatic 69, 3) := by decide +kernel
theorem D_He_closeUp_138 : decode prog_4_method_17_code 138 = .ok (.iadd, 1) := by decide +kernel
theorem D_He_closeUp_139 : decode prog_4_method_17_code 139 = .ok (.istore_n 1, 1) := by decide +kernel
theorem D_He_closeUp_140 : decode prog_4_method_17_code 140 = .ok (.iinc 2 1, 3) := by decide +kernel
theorem D_He_closeUp_143 : decode prog_4_method_17_code 143 = .ok (.goto (-139), 3) := by decide +kernel
theorem D_He_closeUp_146 : decode prog_4_method_17_code 146 = .ok (.return_, 1) := by decide +kernel
def j_He_closeUp_115 (k1 : gM → gO) (rec : gM → Int → gO) (σ : gM) (p1 p2 p3 p4 v5 : Int) : gO :=
  ga (v5 + 1) fun a1 =>
  rec σ a1
set_option maxHeartbeats 4000000 in
theorem wj_He_closeUp_115 {X : gX} (C : gC gctC prog_4_method_17_code kR2 7 5 125 (none) X) {p1 p2 p3 p4 : Int} {k1 : gM → gO} (hk1 : ∀ (σ : gM), GG gctC X 121 [(0, .inr (.inr 28)), (1, .inl p1), (2, .inl p2), (3, .inl p3)] [] σ (k1 σ)) {rec : gM → Int → gO} (hrec : ∀ (σ : gM) (a0 : Int), GG gctC X 35 [(0, .inr (.inr 28)), (1, .inl p1), (2, .inl p2), (3, .inl p3), (4, .inl p4), (5, .inl a0)] [] σ (rec σ a0)) (σ : gM) (v5 : Int) : GG gctC X 115 [(0, .inr (.inr 28)), (1, .inl p1), (2, .inl p2), (3, .inl p3), (4, .inl p4), (5, .inl v5)] [] σ (j_He_closeUp_115 k1 rec σ p1 p2 p3 p4 v5) := by
  unfold j_He_closeUp_115
  refine g_iinc (t := 5) (L' := fun z => [(5, .inl z), (0, .inr (.inr 28)), (1, .inl p1), (2, .inl p2), (3, .inl p3), (4, .inl p4)]) C D_He_closeUp_115 rfl (by decide) (fun _ => rfl) (fun a1 => ?_)
  refine g_goto (tgt := 35) C D_He_closeUp_118 (by decide) ?_
  refine g_sub [1, 2, 3, 4, 5, 0] rfl ?_
  exact hrec _ _
def l_He_closeUp_35 (k1 : gM → gO) (p1 p2 p3 p4 : Int) (rec : gM → Int → gO) (σ : gM) (v5 : Int) : gO :=
  if p4 = p1 then
  (k1 σ)
  else
  (gi p3 40 <|
  if v5 < (σ 30 p3) then
  (ga (p4 + v5) fun a1 =>
  gk (F_Me_touch σ a1) fun s2 a3 =>
  gk (F_Ca_ask s2 0 a3) fun s4 a5 =>
  if a5 = (-5) then
  (j_He_closeUp_115 k1 rec s4 p1 p2 p3 p4 v5)
  else
  (ga (p1 + v5) fun a6 =>
  gk (F_Me_touch s4 a6) fun s7 a8 =>
  gk (F_Ca_change s7 0 a8 a5) fun s9 _ =>
  gk (F_Le_add s9 15 1) fun s10 _ =>
  j_He_closeUp_115 k1 rec s10 p1 p2 p3 p4 v5))
  else
  (k1 σ))
set_option maxHeartbeats 4000000 in
theorem wl_He_closeUp_35 {X : gX} (C : gC gctC prog_4_method_17_code kR2 7 5 125 (none) X) {p1 p2 p3 p4 : Int} {k1 : gM → gO} (hk1 : ∀ (σ : gM), GG gctC X 121 [(0, .inr (.inr 28)), (1, .inl p1), (2, .inl p2), (3, .inl p3)] [] σ (k1 σ)) : ∀ (n : Nat) (σ : gM) (a0 : Int), GG gctC X 35 [(0, .inr (.inr 28)), (1, .inl p1), (2, .inl p2), (3, .inl p3), (4, .inl p4), (5, .inl a0)] [] σ (gl1 (l_He_closeUp_35 k1 p1 p2 p3 p4) n σ a0) := by
  refine gl1_run (P := fun σ a0 o => GG gctC X 35 [(0, .inr (.inr 28)), (1, .inl p1), (2, .inl p2), (3, .inl p3), (4, .inl p4), (5, .inl a0)] [] σ o) (fun _ _ => g_none) (fun rec hrec σ v5 => ?_)
  unfold l_He_closeUp_35
  refine g_iload C D_He_closeUp_35 4 rfl ?_
  refine g_iload_n C D_He_closeUp_37 rfl 1 rfl ?_
  refine g_icmp_eq (tgt := 121) C D_He_closeUp_38 (by decide) ?_ ?_
  · refine g_sub [0, 1, 2, 3] rfl ?_
    exact hk1 _
  · refine g_iload C D_He_closeUp_41 5 rfl ?_
    refine g_aload_n C D_He_closeUp_43 rfl 0 rfl ?_
    refine g_getr (ci := 2) C 1 rfl kI2 rfl (by decide) rfl rfl wf_2_15 D_He_closeUp_44 ?_
    refine g_iload_n C D_He_closeUp_47 rfl 3 rfl ?_
    refine g_iald C rfl rfl rfl D_He_closeUp_48 ?_
    refine g_icmp_ge (tgt := 121) C D_He_closeUp_49 (by decide) ?_ ?_
    · refine g_sub [0, 1, 2, 3] rfl ?_
      exact hk1 _
    · refine g_aload_n C D_He_closeUp_52 rfl 0 rfl ?_
      refine g_getr (ci := 2) C 11 rfl kI2 rfl (by decide) rfl rfl wf_2_44 D_He_closeUp_53 ?_
      refine g_iconst C D_He_closeUp_56 ⟨by decide, by decide⟩ ?_
      refine g_aload_n C D_He_closeUp_57 rfl 0 rfl ?_
      refine g_getr (ci := 2) C 12 rfl kI2 rfl (by decide) rfl rfl wf_2_48 D_He_closeUp_58 ?_
      refine g_iload C D_He_closeUp_61 4 rfl ?_
      refine g_iload C D_He_closeUp_63 5 rfl ?_
      refine g_iadd C D_He_closeUp_65 (fun a1 => ?_)
      refine g_callVi (ci := 4) C [.inl a1] [.inl 0, .inr (.inr 9)] (Or.inl rfl) rfl (fun _ h1 h2 h3 => c_Me_touch h1 h2 h3) rfl rfl wc_2_103 (by decide) (Nat.le_of_ble_eq_true rfl) D_He_closeUp_66 (fun s2 a3 => ?_)
      refine g_callVi (ci := 0) C [.inl 0, .inl a3] [] (Or.inl rfl) rfl (fun _ h1 h2 h3 => c_Ca_ask h1 h2 h3) rfl rfl wc_2_108 (by decide) (Nat.le_of_ble_eq_true rfl) D_He_closeUp_69 (fun s4 a5 => ?_)
      refine g_istore (L' := [(6, .inl a5), (0, .inr (.inr 28)), (1, .inl p1), (2, .inl p2), (3, .inl p3), (4, .inl p4), (5, .inl v5)]) C D_He_closeUp_72 (by decide) rfl ?_
      refine g_iload C D_He_closeUp_74 0 rfl ?_
      refine g_bipush C D_He_closeUp_76 (by decide) ⟨by decide, by decide⟩ ?_
      refine g_icmp_ne (tgt := 84) C D_He_closeUp_78 (by decide) ?_ ?_
      · refine g_aload_n C D_He_closeUp_84 rfl 1 rfl ?_
        refine g_getr (ci := 2) C 11 rfl kI2 rfl (by decide) rfl rfl wf_2_44 D_He_closeUp_85 ?_
        refine g_iconst C D_He_closeUp_88 ⟨by decide, by decide⟩ ?_
        refine g_aload_n C D_He_closeUp_89 rfl 1 rfl ?_
        refine g_getr (ci := 2) C 12 rfl kI2 rfl (by decide) rfl rfl wf_2_48 D_He_closeUp_90 ?_
        refine g_iload_n C D_He_closeUp_93 rfl 2 rfl ?_
        refine g_iload C D_He_closeUp_94 6 rfl ?_
        refine g_iadd C D_He_closeUp_96 (fun a6 => ?_)
        refine g_callVi (ci := 4) C [.inl a6] [.inl 0, .inr (.inr 9)] (Or.inl rfl) rfl (fun _ h1 h2 h3 => c_Me_touch h1 h2 h3) rfl rfl wc_2_103 (by decide) (Nat.le_of_ble_eq_true rfl) D_He_closeUp_97 (fun s7 a8 => ?_)
        refine g_iload C D_He_closeUp_100 0 rfl ?_
        refine g_callVv (ci := 0) C [.inl 0, .inl a8, .inl a5] [] rfl rfl (fun _ h1 h2 h3 => c_Ca_change h1 h2 h3) rfl rfl wc_2_114 (by decide) (Nat.le_of_ble_eq_true rfl) D_He_closeUp_102 (fun s9 _ => ?_)
        refine g_aload_n C D_He_closeUp_105 rfl 1 rfl ?_
        refine g_getr (ci := 2) C 10 rfl kI2 rfl (by decide) rfl rfl wf_2_40 D_He_closeUp_106 ?_
        refine g_bipush C D_He_closeUp_109 (by decide) ⟨by decide, by decide⟩ ?_
        refine g_iconst C D_He_closeUp_111 ⟨by decide, by decide⟩ ?_
        refine g_callVv (ci := 3) C [.inl 15, .inl 1] [] rfl rfl (fun _ h1 h2 h3 => c_Le_add h1 h2 h3) rfl rfl wc_2_59 (by decide) (Nat.le_of_ble_eq_true rfl) D_He_closeUp_112 (fun s10 _ => ?_)
        refine g_sub [1, 2, 3, 4, 5, 6] rfl ?_
        exact wj_He_closeUp_115 C hk1 hrec _ _
      · refine g_goto (tgt := 115) C D_He_closeUp_81 (by decide) ?_
        refine g_sub [1, 2, 3, 4, 5, 6] rfl ?_
        exact wj_He_closeUp_115 C hk1 hrec _ _
def j_He_closeUp_121 (rec : gM → Int → Int → gO) (σ : gM) (v1 v2 v3 : Int) : gO :=
  gw σ 29 40 v3 v1 fun s1 =>
  gi v3 40 <|
  gk (F_He_rounded s1 (s1 30 v3)) fun s2 a3 =>
  ga (v1 + a3) fun a4 =>
  ga (v2 + 1) fun a5 =>
  rec s2 a4 a5
set_option maxHeartbeats 4000000 in
theorem wj_He_closeUp_121 {X : gX} (C : gC gctC prog_4_method_17_code kR2 7 5 125 (none) X) {rec : gM → Int → Int → gO} (hrec : ∀ (σ : gM) (a0 a1 : Int), GG gctC X 4 [(0, .inr (.inr 28)), (1, .inl a0), (2, .inl a1)] [] σ (rec σ a0 a1)) (σ : gM) (v1 v2 v3 : Int) : GG gctC X 121 [(0, .inr (.inr 28)), (1, .inl v1), (2, .inl v2), (3, .inl v3)] [] σ (j_He_closeUp_121 rec σ v1 v2 v3) := by
  unfold j_He_closeUp_121
  refine g_aload_n C D_He_closeUp_121 rfl 0 rfl ?_
  refine g_getr (ci := 2) C 0 rfl kI2 rfl (by decide) rfl rfl wf_2_9 D_He_closeUp_122 ?_
  refine g_iload_n C D_He_closeUp_125 rfl 3 rfl ?_
  refine g_iload_n C D_He_closeUp_126 rfl 1 rfl ?_
  refine g_iast C rfl rfl D_He_closeUp_127 (fun s1 => ?_)
  refine g_iload_n C D_He_closeUp_128 rfl 1 rfl ?_
  refine g_aload_n C D_He_closeUp_129 rfl 0 rfl ?_
  refine g_getr (ci := 2) C 1 rfl kI2 rfl (by decide) rfl rfl wf_2_15 D_He_closeUp_130 ?_
  refine g_iload_n C D_He_closeUp_133 rfl 3 rfl ?_
  refine g_iald C rfl rfl rfl D_He_closeUp_134 ?_
  refine g_callSi C [.inl (s1 30 v3)] [.inl v1] (Or.inl rfl) rfl (fun _ h1 h2 h3 => c_He_rounded h1 h2 h3) wc_2_69 (by decide) (Nat.le_of_ble_eq_true rfl) D_He_closeUp_135 (fun s2 a3 => ?_)
  refine g_iadd C D_He_closeUp_138 (fun a4 => ?_)
  refine g_istore_n (L' := [(1, .inl a4), (0, .inr (.inr 28)), (2, .inl v2), (3, .inl v3)]) C D_He_closeUp_139 rfl (by decide) rfl ?_
  refine g_iinc (t := 2) (L' := fun z => [(2, .inl z), (1, .inl a4), (0, .inr (.inr 28)), (3, .inl v3)]) C D_He_closeUp_140 rfl (by decide) (fun _ => rfl) (fun a5 => ?_)
  refine g_goto (tgt := 4) C D_He_closeUp_143 (by decide) ?_
  refine g_sub [2, 1, 0] rfl ?_
  exact hrec _ _ _
def l_He_closeUp_4 (rec : gM → Int → Int → gO) (σ : gM) (v1 v2 : Int) : gO :=
  if v2 < (σ 28 9) then
  (gk (F_He_objectFrom σ v1) fun s1 a2 =>
  if a2 = (-1) then
  (some (s1, 0))
  else
  (gi a2 40 <|
  gv (s1 29 a2) fun a3 =>
  gl1 (l_He_closeUp_35 (fun s4 => j_He_closeUp_121 rec s4 v1 v2 a2) v1 v2 a2 a3) 200 s1 0))
  else
  (some (σ, 0))
set_option maxHeartbeats 4000000 in
theorem wl_He_closeUp_4 {X : gX} (C : gC gctC prog_4_method_17_code kR2 7 5 125 (none) X) : ∀ (n : Nat) (σ : gM) (a0 a1 : Int), GG gctC X 4 [(0, .inr (.inr 28)), (1, .inl a0), (2, .inl a1)] [] σ (gl2 (l_He_closeUp_4) n σ a0 a1) := by
  refine gl2_run (P := fun σ a0 a1 o => GG gctC X 4 [(0, .inr (.inr 28)), (1, .inl a0), (2, .inl a1)] [] σ o) (fun _ _ _ => g_none) (fun rec hrec σ v1 v2 => ?_)
  unfold l_He_closeUp_4
  refine g_iload_n C D_He_closeUp_4 rfl 2 rfl ?_
  refine g_aload_n C D_He_closeUp_5 rfl 0 rfl ?_
  refine g_get (ci := 2) C 9 (jz := 9) rfl rfl kI2 rfl (by decide) rfl rfl wf_2_99 rfl D_He_closeUp_6 ?_
  refine g_icmp_ge (tgt := 146) C D_He_closeUp_9 (by decide) ?_ ?_
  · exact g_vret C D_He_closeUp_146
  · refine g_aload_n C D_He_closeUp_12 rfl 0 rfl ?_
    refine g_iload_n C D_He_closeUp_13 rfl 1 rfl ?_
    refine g_callVi (ci := 2) C [.inl v1] [] (Or.inl rfl) rfl (fun _ h1 h2 h3 => c_He_objectFrom h1 h2 h3) rfl rfl wc_2_65 (by decide) (Nat.le_of_ble_eq_true rfl) D_He_closeUp_14 (fun s1 a2 => ?_)
    refine g_istore_n (L' := [(3, .inl a2), (0, .inr (.inr 28)), (1, .inl v1), (2, .inl v2)]) C D_He_closeUp_17 rfl (by decide) rfl ?_
    refine g_iload_n C D_He_closeUp_18 rfl 0 rfl ?_
    refine g_iconst C D_He_closeUp_19 ⟨by decide, by decide⟩ ?_
    refine g_icmp_ne (tgt := 24) C D_He_closeUp_20 (by decide) ?_ ?_
    · refine g_aload_n C D_He_closeUp_24 rfl 1 rfl ?_
      refine g_getr (ci := 2) C 0 rfl kI2 rfl (by decide) rfl rfl wf_2_9 D_He_closeUp_25 ?_
      refine g_iload_n C D_He_closeUp_28 rfl 0 rfl ?_
      refine g_iald C rfl rfl rfl D_He_closeUp_29 ?_
      refine g_let C (fun a3 => ?_)
      refine g_istore (L' := [(4, .inl a3), (3, .inl a2), (0, .inr (.inr 28)), (1, .inl v1), (2, .inl v2)]) C D_He_closeUp_30 (by decide) rfl ?_
      refine g_iconst C D_He_closeUp_32 ⟨by decide, by decide⟩ ?_
      refine g_istore (L' := [(5, .inl 0), (4, .inl a3), (3, .inl a2), (0, .inr (.inr 28)), (1, .inl v1), (2, .inl v2)]) C D_He_closeUp_33 (by decide) rfl ?_
      refine g_sub [3, 4, 5, 2, 1, 0] rfl ?_
      exact wl_He_closeUp_35 C (fun s4 => by
          exact wj_He_closeUp_121 C hrec _ _ _ _) 200 _ _
    · exact g_vret C D_He_closeUp_23
def F_He_closeUp (σ : gM) : gO :=
  gl2 (l_He_closeUp_4) 200 σ 0 0
set_option maxHeartbeats 4000000 in
theorem w_He_closeUp {X : gX} (C : gC gctC prog_4_method_17_code kR2 7 5 125 (none) X) (σ : gM) : GG gctC X 0 [(0, .inr (.inr 28))] [] σ (F_He_closeUp σ) := by
  unfold F_He_closeUp
  refine g_iconst C D_He_closeUp_0 ⟨by decide, by decide⟩ ?_
  refine g_istore_n (L' := [(1, .inl 0), (0, .inr (.inr 28))]) C D_He_closeUp_1 rfl (by decide) rfl ?_
  refine g_iconst C D_He_closeUp_2 ⟨by decide, by decide⟩ ?_
  refine g_istore_n (L' := [(2, .inl 0), (1, .inl 0), (0, .inr (.inr 28))]) C D_He_closeUp_3 rfl (by decide) rfl ?_
  refine g_sub [2, 1, 0] rfl ?_
  exact wl_He_closeUp_4 C 200 _ _ _
theorem c_He_closeUp {σ : gM} {r : gR} (ho : F_He_closeUp σ = some r) (hok : gOk [.inr (.inr 28)]) (hin : gIn gctC σ) : gCt gctC Y_He_closeUp prog_4_method_17_code 7 (none) 5 125 [.inr (.inr 28)] σ r := g_entry (by decide) rfl (Nat.le_of_ble_eq_true rfl) ho hok hin (fun X C => w_He_closeUp C σ)
