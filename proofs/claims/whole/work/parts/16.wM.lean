/-! by program: functions of the methods and their walks: Mo_cellOf, Mo_loadByte, Mo_saveByte, Mo_isPair, Mo_load, Mo_save, Mo_nextIn, Mo_fewest, Mo_rounded, Mo_firstFrom, Mo_nextRoom, Mo_roomFor_, Mo_freeNumber, Mo_putBehind, Mo_isObject, Mo_follow, Mo_bury, Mo_moveAll, Mo_gatherNow, Mo_make, Mo_get -/
theorem D_Mo_cellOf_0 : decode prog_9_method_44_code 0 = .ok (.bipush 32, 2) := by decide +kernel
theorem D_Mo_cellOf_2 : decode prog_9_method_44_code 2 = .ok (.aload_n 0, 1) := by decide +kernel
theorem D_Mo_cellOf_3 : decode prog_9_method_44_code 3 = .ok (.iload_n 1, 1) := by decide +kernel
theorem D_Mo_cellOf_4 : decode prog_9_method_44_code 4 = .ok (.bipush 32, 2) := by decide +kernel
theorem D_Mo_cellOf_6 : decode prog_9_method_44_code 6 = .ok (.idiv, 1) := by decide +kernel
theorem D_Mo_cellOf_7 : decode prog_9_method_44_code 7 = .ok (.invokevirtual 242, 3) := by decide +kernel
theorem D_Mo_cellOf_10 : decode prog_9_method_44_code 10 = .ok (.imul, 1) := by decide +kernel
theorem D_Mo_cellOf_11 : decode prog_9_method_44_code 11 = .ok (.iload_n 1, 1) := by decide +kernel
theorem D_Mo_cellOf_12 : decode prog_9_method_44_code 12 = .ok (.bipush 32, 2) := by decide +kernel
theorem D_Mo_cellOf_14 : decode prog_9_method_44_code 14 = .ok (.irem, 1) := by decide +kernel
theorem D_Mo_cellOf_15 : decode prog_9_method_44_code 15 = .ok (.iadd, 1) := by decide +kernel
theorem D_Mo_cellOf_16 : decode prog_9_method_44_code 16 = .ok (.ireturn, 1) := by decide +kernel
def F_Mo_cellOf (σ : gM) (v1 : Int) : gO :=
  gd v1 32 <|
  gk (F_Mo_touch σ (v1 / 32)) fun s1 a2 =>
  ga (32 * a2) fun a3 =>
  gd v1 32 <|
  ga (a3 + (v1 % 32)) fun a4 =>
  some (s1, a4)
set_option maxHeartbeats 4000000 in
theorem w_Mo_cellOf {X : gX} (C : gC gctM prog_9_method_44_code kR7 2 7 164 (some .int) X) (σ : gM) (v1 : Int) : GG gctM X 0 [(0, .inr (.inr 0)), (1, .inl v1)] [] σ (F_Mo_cellOf σ v1) := by
  unfold F_Mo_cellOf
  refine g_bipush C D_Mo_cellOf_0 (by decide) ⟨by decide, by decide⟩ ?_
  refine g_aload_n C D_Mo_cellOf_2 rfl 0 rfl ?_
  refine g_iload_n C D_Mo_cellOf_3 rfl 1 rfl ?_
  refine g_bipush C D_Mo_cellOf_4 (by decide) ⟨by decide, by decide⟩ ?_
  refine g_idiv C D_Mo_cellOf_6 ?_
  refine g_callVi (ci := 7) C [.inl (v1 / 32)] [.inl 32] (Or.inl rfl) rfl (fun _ h1 h2 h3 => c_Mo_touch h1 h2 h3) rfl rfl wc_7_242 (by decide) (Nat.le_of_ble_eq_true rfl) D_Mo_cellOf_7 (fun s1 a2 => ?_)
  refine g_imul C D_Mo_cellOf_10 (fun a3 => ?_)
  refine g_iload_n C D_Mo_cellOf_11 rfl 1 rfl ?_
  refine g_bipush C D_Mo_cellOf_12 (by decide) ⟨by decide, by decide⟩ ?_
  refine g_irem C D_Mo_cellOf_14 ?_
  refine g_iadd C D_Mo_cellOf_15 (fun a4 => ?_)
  exact g_iret C D_Mo_cellOf_16
theorem c_Mo_cellOf {σ : gM} {v1 : Int} {r : gR} (ho : F_Mo_cellOf σ v1 = some r) (hok : gOk [.inr (.inr 0), .inl v1]) (hin : gIn gctM σ) : gCt gctM Y_Mo_cellOf prog_9_method_44_code 2 (some .int) 7 164 [.inr (.inr 0), .inl v1] σ r := g_entry (by decide) rfl (Nat.le_of_ble_eq_true rfl) ho hok hin (fun X C => w_Mo_cellOf C σ v1)
theorem D_Mo_loadByte_0 : decode prog_9_method_45_code 0 = .ok (.aload_n 0, 1) := by decide +kernel
theorem D_Mo_loadByte_1 : decode prog_9_method_45_code 1 = .ok (.iload_n 1, 1) := by decide +kernel
theorem D_Mo_loadByte_2 : decode prog_9_method_45_code 2 = .ok (.aload_n 0, 1) := by decide +kernel
theorem D_Mo_loadByte_3 : decode prog_9_method_45_code 3 = .ok (.iload_n 2, 1) := by decide +kernel
theorem D_Mo_loadByte_4 : decode prog_9_method_45_code 4 = .ok (.invokevirtual 245, 3) := by decide +kernel
theorem D_Mo_loadByte_7 : decode prog_9_method_45_code 7 = .ok (.invokevirtual 248, 3) := by decide +kernel
theorem D_Mo_loadByte_10 : decode prog_9_method_45_code 10 = .ok (.ireturn, 1) := by decide +kernel
def F_Mo_loadByte (σ : gM) (v1 v2 : Int) : gO :=
  gk (F_Mo_cellOf σ v2) fun s1 a2 =>
  gk (F_Mo_readByte s1 v1 a2) fun s3 a4 =>
  some (s3, a4)
set_option maxHeartbeats 4000000 in
theorem w_Mo_loadByte {X : gX} (C : gC gctM prog_9_method_45_code kR7 3 8 191 (some .int) X) (σ : gM) (v1 v2 : Int) : GG gctM X 0 [(0, .inr (.inr 0)), (1, .inl v1), (2, .inl v2)] [] σ (F_Mo_loadByte σ v1 v2) := by
  unfold F_Mo_loadByte
  refine g_aload_n C D_Mo_loadByte_0 rfl 0 rfl ?_
  refine g_iload_n C D_Mo_loadByte_1 rfl 1 rfl ?_
  refine g_aload_n C D_Mo_loadByte_2 rfl 0 rfl ?_
  refine g_iload_n C D_Mo_loadByte_3 rfl 2 rfl ?_
  refine g_callVi (ci := 7) C [.inl v2] [.inl v1, .inr (.inr 0)] (Or.inl rfl) rfl (fun _ h1 h2 h3 => c_Mo_cellOf h1 h2 h3) rfl rfl wc_7_245 (by decide) (Nat.le_of_ble_eq_true rfl) D_Mo_loadByte_4 (fun s1 a2 => ?_)
  refine g_callVi (ci := 7) C [.inl v1, .inl a2] [] (Or.inl rfl) rfl (fun _ h1 h2 h3 => c_Mo_readByte h1 h2 h3) rfl rfl wc_7_248 (by decide) (Nat.le_of_ble_eq_true rfl) D_Mo_loadByte_7 (fun s3 a4 => ?_)
  exact g_iret C D_Mo_loadByte_10
theorem c_Mo_loadByte {σ : gM} {v1 v2 : Int} {r : gR} (ho : F_Mo_loadByte σ v1 v2 = some r) (hok : gOk [.inr (.inr 0), .inl v1, .inl v2]) (hin : gIn gctM σ) : gCt gctM Y_Mo_loadByte prog_9_method_45_code 3 (some .int) 8 191 [.inr (.inr 0), .inl v1, .inl v2] σ r := g_entry (by decide) rfl (Nat.le_of_ble_eq_true rfl) ho hok hin (fun X C => w_Mo_loadByte C σ v1 v2)
theorem D_Mo_saveByte_0 : decode prog_9_method_46_code 0 = .ok (.aload_n 0, 1) := by decide +kernel
theorem D_Mo_saveByte_1 : decode prog_9_method_46_code 1 = .ok (.iload_n 1, 1) := by decide +kernel
theorem D_Mo_saveByte_2 : decode prog_9_method_46_code 2 = .ok (.aload_n 0, 1) := by decide +kernel
theorem D_Mo_saveByte_3 : decode prog_9_method_46_code 3 = .ok (.iload_n 2, 1) := by decide +kernel
theorem D_Mo_saveByte_4 : decode prog_9_method_46_code 4 = .ok (.invokevirtual 245, 3) := by decide +kernel
theorem D_Mo_saveByte_7 : decode prog_9_method_46_code 7 = .ok (.iload_n 3, 1) := by decide +kernel
theorem D_Mo_saveByte_8 : decode prog_9_method_46_code 8 = .ok (.invokevirtual 251, 3) := by decide +kernel
theorem D_Mo_saveByte_11 : decode prog_9_method_46_code 11 = .ok (.return_, 1) := by decide +kernel
def F_Mo_saveByte (σ : gM) (v1 v2 v3 : Int) : gO :=
  gk (F_Mo_cellOf σ v2) fun s1 a2 =>
  gk (F_Mo_writeByte s1 v1 a2 v3) fun s3 _ =>
  some (s3, 0)
set_option maxHeartbeats 4000000 in
theorem w_Mo_saveByte {X : gX} (C : gC gctM prog_9_method_46_code kR7 4 8 193 (none) X) (σ : gM) (v1 v2 v3 : Int) : GG gctM X 0 [(0, .inr (.inr 0)), (1, .inl v1), (2, .inl v2), (3, .inl v3)] [] σ (F_Mo_saveByte σ v1 v2 v3) := by
  unfold F_Mo_saveByte
  refine g_aload_n C D_Mo_saveByte_0 rfl 0 rfl ?_
  refine g_iload_n C D_Mo_saveByte_1 rfl 1 rfl ?_
  refine g_aload_n C D_Mo_saveByte_2 rfl 0 rfl ?_
  refine g_iload_n C D_Mo_saveByte_3 rfl 2 rfl ?_
  refine g_callVi (ci := 7) C [.inl v2] [.inl v1, .inr (.inr 0)] (Or.inl rfl) rfl (fun _ h1 h2 h3 => c_Mo_cellOf h1 h2 h3) rfl rfl wc_7_245 (by decide) (Nat.le_of_ble_eq_true rfl) D_Mo_saveByte_4 (fun s1 a2 => ?_)
  refine g_iload_n C D_Mo_saveByte_7 rfl 3 rfl ?_
  refine g_callVv (ci := 7) C [.inl v1, .inl a2, .inl v3] [] rfl rfl (fun _ h1 h2 h3 => c_Mo_writeByte h1 h2 h3) rfl rfl wc_7_251 (by decide) (Nat.le_of_ble_eq_true rfl) D_Mo_saveByte_8 (fun s3 _ => ?_)
  exact g_vret C D_Mo_saveByte_11
theorem c_Mo_saveByte {σ : gM} {v1 v2 v3 : Int} {r : gR} (ho : F_Mo_saveByte σ v1 v2 v3 = some r) (hok : gOk [.inr (.inr 0), .inl v1, .inl v2, .inl v3]) (hin : gIn gctM σ) : gCt gctM Y_Mo_saveByte prog_9_method_46_code 4 (none) 8 193 [.inr (.inr 0), .inl v1, .inl v2, .inl v3] σ r := g_entry (by decide) rfl (Nat.le_of_ble_eq_true rfl) ho hok hin (fun X C => w_Mo_saveByte C σ v1 v2 v3)
theorem D_Mo_isPair_0 : decode prog_9_method_47_code 0 = .ok (.iload_n 0, 1) := by decide +kernel
theorem D_Mo_isPair_1 : decode prog_9_method_47_code 1 = .ok (.iconst 0, 1) := by decide +kernel
theorem D_Mo_isPair_2 : decode prog_9_method_47_code 2 = .ok (.iconst 1, 1) := by decide +kernel
theorem D_Mo_isPair_3 : decode prog_9_method_47_code 3 = .ok (.invokestatic 147, 3) := by decide +kernel
theorem D_Mo_isPair_6 : decode prog_9_method_47_code 6 = .ok (.ifCond .eq 18, 3) := by decide +kernel
theorem D_Mo_isPair_9 : decode prog_9_method_47_code 9 = .ok (.iload_n 1, 1) := by decide +kernel
theorem D_Mo_isPair_10 : decode prog_9_method_47_code 10 = .ok (.iconst 0, 1) := by decide +kernel
theorem D_Mo_isPair_11 : decode prog_9_method_47_code 11 = .ok (.sipush 1023, 3) := by decide +kernel
theorem D_Mo_isPair_14 : decode prog_9_method_47_code 14 = .ok (.invokestatic 147, 3) := by decide +kernel
theorem D_Mo_isPair_17 : decode prog_9_method_47_code 17 = .ok (.ifCond .eq 7, 3) := by decide +kernel
theorem D_Mo_isPair_20 : decode prog_9_method_47_code 20 = .ok (.iconst 1, 1) := by decide +kernel
theorem D_Mo_isPair_21 : decode prog_9_method_47_code 21 = .ok (.goto 4, 3) := by decide +kernel
theorem D_Mo_isPair_24 : decode prog_9_method_47_code 24 = .ok (.iconst 0, 1) := by decide +kernel
theorem D_Mo_isPair_25 : decode prog_9_method_47_code 25 = .ok (.ireturn, 1) := by decide +kernel
def j_Mo_isPair_25 (σ : gM) (t0 : Int) : gO :=
  gb t0 (some (σ, t0))
set_option maxHeartbeats 4000000 in
theorem wj_Mo_isPair_25 {X : gX} (C : gC gctM prog_9_method_47_code kR7 2 1 22 (some .boolean) X) (σ : gM) (t0 : Int) : GG gctM X 25 [] [.inl t0] σ (j_Mo_isPair_25 σ t0) := by
  unfold j_Mo_isPair_25
  exact g_zret C D_Mo_isPair_25
def j_Mo_isPair_24 (σ : gM) : gO :=
  j_Mo_isPair_25 σ 0
set_option maxHeartbeats 4000000 in
theorem wj_Mo_isPair_24 {X : gX} (C : gC gctM prog_9_method_47_code kR7 2 1 22 (some .boolean) X) (σ : gM) : GG gctM X 24 [] [] σ (j_Mo_isPair_24 σ) := by
  unfold j_Mo_isPair_24
  refine g_iconst C D_Mo_isPair_24 ⟨by decide, by decide⟩ ?_
  exact wj_Mo_isPair_25 C _ _
def F_Mo_isPair (σ : gM) (v0 v1 : Int) : gO :=
  gk (F_Mo_in σ v0 0 1) fun s1 a2 =>
  if a2 = 0 then
  (j_Mo_isPair_24 s1)
  else
  (gk (F_Mo_in s1 v1 0 1023) fun s3 a4 =>
  if a4 = 0 then
  (j_Mo_isPair_24 s3)
  else
  (j_Mo_isPair_25 s3 1))
set_option maxHeartbeats 4000000 in
theorem w_Mo_isPair {X : gX} (C : gC gctM prog_9_method_47_code kR7 2 1 22 (some .boolean) X) (σ : gM) (v0 v1 : Int) : GG gctM X 0 [(0, .inl v0), (1, .inl v1)] [] σ (F_Mo_isPair σ v0 v1) := by
  unfold F_Mo_isPair
  refine g_iload_n C D_Mo_isPair_0 rfl 0 rfl ?_
  refine g_iconst C D_Mo_isPair_1 ⟨by decide, by decide⟩ ?_
  refine g_iconst C D_Mo_isPair_2 ⟨by decide, by decide⟩ ?_
  refine g_callSi C [.inl v0, .inl 0, .inl 1] [] (Or.inr rfl) rfl (fun _ h1 h2 h3 => c_Mo_in h1 h2 h3) wc_7_147 (by decide) (Nat.le_of_ble_eq_true rfl) D_Mo_isPair_3 (fun s1 a2 => ?_)
  refine g_if_eq (tgt := 24) C D_Mo_isPair_6 (by decide) ?_ ?_
  · refine g_sub [] rfl ?_
    exact wj_Mo_isPair_24 C _
  · refine g_iload_n C D_Mo_isPair_9 rfl 1 rfl ?_
    refine g_iconst C D_Mo_isPair_10 ⟨by decide, by decide⟩ ?_
    refine g_sipush C D_Mo_isPair_11 (by decide) ⟨by decide, by decide⟩ ?_
    refine g_callSi C [.inl v1, .inl 0, .inl 1023] [] (Or.inr rfl) rfl (fun _ h1 h2 h3 => c_Mo_in h1 h2 h3) wc_7_147 (by decide) (Nat.le_of_ble_eq_true rfl) D_Mo_isPair_14 (fun s3 a4 => ?_)
    refine g_if_eq (tgt := 24) C D_Mo_isPair_17 (by decide) ?_ ?_
    · refine g_sub [] rfl ?_
      exact wj_Mo_isPair_24 C _
    · refine g_iconst C D_Mo_isPair_20 ⟨by decide, by decide⟩ ?_
      refine g_goto (tgt := 25) C D_Mo_isPair_21 (by decide) ?_
      refine g_sub [] rfl ?_
      exact wj_Mo_isPair_25 C _ _
theorem c_Mo_isPair {σ : gM} {v0 v1 : Int} {r : gR} (ho : F_Mo_isPair σ v0 v1 = some r) (hok : gOk [.inl v0, .inl v1]) (hin : gIn gctM σ) : gCt gctM Y_Mo_isPair prog_9_method_47_code 2 (some .boolean) 1 22 [.inl v0, .inl v1] σ r := g_entry (by decide) rfl (Nat.le_of_ble_eq_true rfl) ho hok hin (fun X C => w_Mo_isPair C σ v0 v1)
theorem D_Mo_load_0 : decode prog_9_method_48_code 0 = .ok (.iload_n 1, 1) := by decide +kernel
theorem D_Mo_load_1 : decode prog_9_method_48_code 1 = .ok (.iload_n 2, 1) := by decide +kernel
theorem D_Mo_load_2 : decode prog_9_method_48_code 2 = .ok (.invokestatic 255, 3) := by decide +kernel
theorem D_Mo_load_5 : decode prog_9_method_48_code 5 = .ok (.ifCond .ne 5, 3) := by decide +kernel
theorem D_Mo_load_8 : decode prog_9_method_48_code 8 = .ok (.iconst (-1), 1) := by decide +kernel
theorem D_Mo_load_9 : decode prog_9_method_48_code 9 = .ok (.ireturn, 1) := by decide +kernel
theorem D_Mo_load_10 : decode prog_9_method_48_code 10 = .ok (.aload_n 0, 1) := by decide +kernel
theorem D_Mo_load_11 : decode prog_9_method_48_code 11 = .ok (.iload_n 1, 1) := by decide +kernel
theorem D_Mo_load_12 : decode prog_9_method_48_code 12 = .ok (.iload_n 2, 1) := by decide +kernel
theorem D_Mo_load_13 : decode prog_9_method_48_code 13 = .ok (.invokevirtual 259, 3) := by decide +kernel
theorem D_Mo_load_16 : decode prog_9_method_48_code 16 = .ok (.istore_n 3, 1) := by decide +kernel
theorem D_Mo_load_17 : decode prog_9_method_48_code 17 = .ok (.aload_n 0, 1) := by decide +kernel
theorem D_Mo_load_18 : decode prog_9_method_48_code 18 = .ok (.getfield 112, 3) := by decide +kernel
theorem D_Mo_load_21 : decode prog_9_method_48_code 21 = .ok (.bipush 9, 2) := by decide +kernel
theorem D_Mo_load_23 : decode prog_9_method_48_code 23 = .ok (.dup2, 1) := by decide +kernel
theorem D_Mo_load_24 : decode prog_9_method_48_code 24 = .ok (.iaload, 1) := by decide +kernel
theorem D_Mo_load_25 : decode prog_9_method_48_code 25 = .ok (.iload_n 3, 1) := by decide +kernel
theorem D_Mo_load_26 : decode prog_9_method_48_code 26 = .ok (.bipush (-5), 2) := by decide +kernel
theorem D_Mo_load_28 : decode prog_9_method_48_code 28 = .ok (.if_icmp .ne 7, 3) := by decide +kernel
theorem D_Mo_load_31 : decode prog_9_method_48_code 31 = .ok (.iconst 1, 1) := by decide +kernel
theorem D_Mo_load_32 : decode prog_9_method_48_code 32 = .ok (.goto 4, 3) := by decide +kernel
theorem D_Mo_load_35 : decode prog_9_method_48_code 35 = .ok (.iconst 0, 1) := by decide +kernel
theorem D_Mo_load_36 : decode prog_9_method_48_code 36 = .ok (.iadd, 1) := by decide +kernel
theorem D_Mo_load_37 : decode prog_9_method_48_code 37 = .ok (.iastore, 1) := by decide +kernel
theorem D_Mo_load_38 : decode prog_9_method_48_code 38 = .ok (.iload_n 3, 1) := by decide +kernel
theorem D_Mo_load_39 : decode prog_9_method_48_code 39 = .ok (.ireturn, 1) := by decide +kernel
def j_Mo_load_36_30 (σ : gM) (v3 t0 t1 t2 : Int) : gO :=
  ga (t1 + t0) fun a1 =>
  gw σ 30 16 t2 a1 fun s2 =>
  some (s2, v3)
set_option maxHeartbeats 4000000 in
theorem wj_Mo_load_36_30 {X : gX} (C : gC gctM prog_9_method_48_code kR7 4 9 213 (some .int) X) (σ : gM) (v3 t0 t1 t2 : Int) : GG gctM X 36 [(3, .inl v3)] [.inl t0, .inl t1, .inl t2, .inr (.inr 30)] σ (j_Mo_load_36_30 σ v3 t0 t1 t2) := by
  unfold j_Mo_load_36_30
  refine g_iadd C D_Mo_load_36 (fun a1 => ?_)
  refine g_iast C rfl rfl D_Mo_load_37 (fun s2 => ?_)
  refine g_iload_n C D_Mo_load_38 rfl 0 rfl ?_
  exact g_iret C D_Mo_load_39
def F_Mo_load (σ : gM) (v1 v2 : Int) : gO :=
  gk (F_Mo_isPair σ v1 v2) fun s1 a2 =>
  if a2 = 0 then
  (some (s1, (-1)))
  else
  (gk (F_Mo_loadByte s1 v1 v2) fun s3 a4 =>
  gi 9 16 <|
  if a4 = (-5) then
  (j_Mo_load_36_30 s3 a4 1 (s3 30 9) 9)
  else
  (j_Mo_load_36_30 s3 a4 0 (s3 30 9) 9))
set_option maxHeartbeats 4000000 in
theorem w_Mo_load {X : gX} (C : gC gctM prog_9_method_48_code kR7 4 9 213 (some .int) X) (σ : gM) (v1 v2 : Int) : GG gctM X 0 [(0, .inr (.inr 0)), (1, .inl v1), (2, .inl v2)] [] σ (F_Mo_load σ v1 v2) := by
  unfold F_Mo_load
  refine g_iload_n C D_Mo_load_0 rfl 1 rfl ?_
  refine g_iload_n C D_Mo_load_1 rfl 2 rfl ?_
  refine g_callSi C [.inl v1, .inl v2] [] (Or.inr rfl) rfl (fun _ h1 h2 h3 => c_Mo_isPair h1 h2 h3) wc_7_255 (by decide) (Nat.le_of_ble_eq_true rfl) D_Mo_load_2 (fun s1 a2 => ?_)
  refine g_if_ne (tgt := 10) C D_Mo_load_5 (by decide) ?_ ?_
  · refine g_aload_n C D_Mo_load_10 rfl 0 rfl ?_
    refine g_iload_n C D_Mo_load_11 rfl 1 rfl ?_
    refine g_iload_n C D_Mo_load_12 rfl 2 rfl ?_
    refine g_callVi (ci := 7) C [.inl v1, .inl v2] [] (Or.inl rfl) rfl (fun _ h1 h2 h3 => c_Mo_loadByte h1 h2 h3) rfl rfl wc_7_259 (by decide) (Nat.le_of_ble_eq_true rfl) D_Mo_load_13 (fun s3 a4 => ?_)
    refine g_istore_n (L' := [(3, .inl a4), (0, .inr (.inr 0)), (1, .inl v1), (2, .inl v2)]) C D_Mo_load_16 rfl (by decide) rfl ?_
    refine g_aload_n C D_Mo_load_17 rfl 1 rfl ?_
    refine g_getr (ci := 7) C 42 rfl kI7 rfl (by decide) rfl rfl wf_7_112 D_Mo_load_18 ?_
    refine g_bipush C D_Mo_load_21 (by decide) ⟨by decide, by decide⟩ ?_
    refine g_dup2 C D_Mo_load_23 rfl rfl ?_
    refine g_iald C rfl rfl rfl D_Mo_load_24 ?_
    refine g_iload_n C D_Mo_load_25 rfl 0 rfl ?_
    refine g_bipush C D_Mo_load_26 (by decide) ⟨by decide, by decide⟩ ?_
    refine g_icmp_ne (tgt := 35) C D_Mo_load_28 (by decide) ?_ ?_
    · refine g_iconst C D_Mo_load_35 ⟨by decide, by decide⟩ ?_
      refine g_sub [0] rfl ?_
      exact wj_Mo_load_36_30 C _ _ _ _ _
    · refine g_iconst C D_Mo_load_31 ⟨by decide, by decide⟩ ?_
      refine g_goto (tgt := 36) C D_Mo_load_32 (by decide) ?_
      refine g_sub [0] rfl ?_
      exact wj_Mo_load_36_30 C _ _ _ _ _
  · refine g_iconst C D_Mo_load_8 ⟨by decide, by decide⟩ ?_
    exact g_iret C D_Mo_load_9
theorem c_Mo_load {σ : gM} {v1 v2 : Int} {r : gR} (ho : F_Mo_load σ v1 v2 = some r) (hok : gOk [.inr (.inr 0), .inl v1, .inl v2]) (hin : gIn gctM σ) : gCt gctM Y_Mo_load prog_9_method_48_code 4 (some .int) 9 213 [.inr (.inr 0), .inl v1, .inl v2] σ r := g_entry (by decide) rfl (Nat.le_of_ble_eq_true rfl) ho hok hin (fun X C => w_Mo_load C σ v1 v2)
theorem D_Mo_save_0 : decode prog_9_method_49_code 0 = .ok (.iload_n 1, 1) := by decide +kernel
theorem D_Mo_save_1 : decode prog_9_method_49_code 1 = .ok (.iload_n 2, 1) := by decide +kernel
theorem D_Mo_save_2 : decode prog_9_method_49_code 2 = .ok (.invokestatic 255, 3) := by decide +kernel
theorem D_Mo_save_5 : decode prog_9_method_49_code 5 = .ok (.ifCond .eq 14, 3) := by decide +kernel
theorem D_Mo_save_8 : decode prog_9_method_49_code 8 = .ok (.iload_n 3, 1) := by decide +kernel
theorem D_Mo_save_9 : decode prog_9_method_49_code 9 = .ok (.iconst 0, 1) := by decide +kernel
theorem D_Mo_save_10 : decode prog_9_method_49_code 10 = .ok (.sipush 255, 3) := by decide +kernel
theorem D_Mo_save_13 : decode prog_9_method_49_code 13 = .ok (.invokestatic 147, 3) := by decide +kernel
theorem D_Mo_save_16 : decode prog_9_method_49_code 16 = .ok (.ifCond .ne 5, 3) := by decide +kernel
theorem D_Mo_save_19 : decode prog_9_method_49_code 19 = .ok (.iconst (-1), 1) := by decide +kernel
theorem D_Mo_save_20 : decode prog_9_method_49_code 20 = .ok (.ireturn, 1) := by decide +kernel
theorem D_Mo_save_21 : decode prog_9_method_49_code 21 = .ok (.aload_n 0, 1) := by decide +kernel
theorem D_Mo_save_22 : decode prog_9_method_49_code 22 = .ok (.invokevirtual 262, 3) := by decide +kernel
theorem D_Mo_save_25 : decode prog_9_method_49_code 25 = .ok (.lstore 4, 2) := by decide +kernel
theorem D_Mo_save_27 : decode prog_9_method_49_code 27 = .ok (.aload_n 0, 1) := by decide +kernel
theorem D_Mo_save_28 : decode prog_9_method_49_code 28 = .ok (.iload_n 1, 1) := by decide +kernel
theorem D_Mo_save_29 : decode prog_9_method_49_code 29 = .ok (.iload_n 2, 1) := by decide +kernel
theorem D_Mo_save_30 : decode prog_9_method_49_code 30 = .ok (.iload_n 3, 1) := by decide +kernel
theorem D_Mo_save_31 : decode prog_9_method_49_code 31 = .ok (.invokevirtual 266, 3) := by decide +kernel
theorem D_Mo_save_34 : decode prog_9_method_49_code 34 = .ok (.aload_n 0, 1) := by decide +kernel
theorem D_Mo_save_35 : decode prog_9_method_49_code 35 = .ok (.invokevirtual 262, 3) := by decide +kernel
theorem D_Mo_save_38 : decode prog_9_method_49_code 38 = .ok (.lload 4, 2) := by decide +kernel
theorem D_Mo_save_40 : decode prog_9_method_49_code 40 = .ok (.lsub, 1) := by decide +kernel
theorem D_Mo_save_41 : decode prog_9_method_49_code 41 = .ok (.l2i, 1) := by decide +kernel
theorem D_Mo_save_42 : decode prog_9_method_49_code 42 = .ok (.ireturn, 1) := by decide +kernel
def j_Mo_save_19 (σ : gM) : gO :=
  some (σ, (-1))
set_option maxHeartbeats 4000000 in
theorem wj_Mo_save_19 {X : gX} (C : gC gctM prog_9_method_49_code kR7 6 9 216 (some .int) X) (σ : gM) : GG gctM X 19 [] [] σ (j_Mo_save_19 σ) := by
  unfold j_Mo_save_19
  refine g_iconst C D_Mo_save_19 ⟨by decide, by decide⟩ ?_
  exact g_iret C D_Mo_save_20
def F_Mo_save (σ : gM) (v1 v2 v3 : Int) : gO :=
  gk (F_Mo_isPair σ v1 v2) fun s1 a2 =>
  if a2 = 0 then
  (j_Mo_save_19 s1)
  else
  (gk (F_Mo_in s1 v3 0 255) fun s3 a4 =>
  if a4 = 0 then
  (j_Mo_save_19 s3)
  else
  (gk (F_Mo_allTicks s3) fun s5 a6 =>
  gk (F_Mo_saveByte s5 v1 v2 v3) fun s7 _ =>
  gk (F_Mo_allTicks s7) fun s8 a9 =>
  gal (a9 - a6) fun a10 =>
  ga a10 fun a11 =>
  some (s8, a11)))
set_option maxHeartbeats 4000000 in
theorem w_Mo_save {X : gX} (C : gC gctM prog_9_method_49_code kR7 6 9 216 (some .int) X) (σ : gM) (v1 v2 v3 : Int) : GG gctM X 0 [(0, .inr (.inr 0)), (1, .inl v1), (2, .inl v2), (3, .inl v3)] [] σ (F_Mo_save σ v1 v2 v3) := by
  unfold F_Mo_save
  refine g_iload_n C D_Mo_save_0 rfl 1 rfl ?_
  refine g_iload_n C D_Mo_save_1 rfl 2 rfl ?_
  refine g_callSi C [.inl v1, .inl v2] [] (Or.inr rfl) rfl (fun _ h1 h2 h3 => c_Mo_isPair h1 h2 h3) wc_7_255 (by decide) (Nat.le_of_ble_eq_true rfl) D_Mo_save_2 (fun s1 a2 => ?_)
  refine g_if_eq (tgt := 19) C D_Mo_save_5 (by decide) ?_ ?_
  · refine g_sub [] rfl ?_
    exact wj_Mo_save_19 C _
  · refine g_iload_n C D_Mo_save_8 rfl 3 rfl ?_
    refine g_iconst C D_Mo_save_9 ⟨by decide, by decide⟩ ?_
    refine g_sipush C D_Mo_save_10 (by decide) ⟨by decide, by decide⟩ ?_
    refine g_callSi C [.inl v3, .inl 0, .inl 255] [] (Or.inr rfl) rfl (fun _ h1 h2 h3 => c_Mo_in h1 h2 h3) wc_7_147 (by decide) (Nat.le_of_ble_eq_true rfl) D_Mo_save_13 (fun s3 a4 => ?_)
    refine g_if_ne (tgt := 21) C D_Mo_save_16 (by decide) ?_ ?_
    · refine g_aload_n C D_Mo_save_21 rfl 0 rfl ?_
      refine g_callVl (ci := 7) C [] [] rfl rfl (fun _ h1 h2 h3 => c_Mo_allTicks h1 h2 h3) rfl rfl wc_7_262 (by decide) (Nat.le_of_ble_eq_true rfl) D_Mo_save_22 (fun s5 a6 => ?_)
      refine g_lstore (L' := [(4, .inr (.inl a6)), (0, .inr (.inr 0)), (1, .inl v1), (2, .inl v2), (3, .inl v3)]) C D_Mo_save_25 (by decide) rfl ?_
      refine g_aload_n C D_Mo_save_27 rfl 1 rfl ?_
      refine g_iload_n C D_Mo_save_28 rfl 2 rfl ?_
      refine g_iload_n C D_Mo_save_29 rfl 3 rfl ?_
      refine g_iload_n C D_Mo_save_30 rfl 4 rfl ?_
      refine g_callVv (ci := 7) C [.inl v1, .inl v2, .inl v3] [] rfl rfl (fun _ h1 h2 h3 => c_Mo_saveByte h1 h2 h3) rfl rfl wc_7_266 (by decide) (Nat.le_of_ble_eq_true rfl) D_Mo_save_31 (fun s7 _ => ?_)
      refine g_aload_n C D_Mo_save_34 rfl 1 rfl ?_
      refine g_callVl (ci := 7) C [] [] rfl rfl (fun _ h1 h2 h3 => c_Mo_allTicks h1 h2 h3) rfl rfl wc_7_262 (by decide) (Nat.le_of_ble_eq_true rfl) D_Mo_save_35 (fun s8 a9 => ?_)
      refine g_lload C D_Mo_save_38 0 rfl ?_
      refine g_lsub C D_Mo_save_40 (fun a10 => ?_)
      refine g_l2i C D_Mo_save_41 (fun a11 => ?_)
      exact g_iret C D_Mo_save_42
    · refine g_sub [] rfl ?_
      exact wj_Mo_save_19 C _
theorem c_Mo_save {σ : gM} {v1 v2 v3 : Int} {r : gR} (ho : F_Mo_save σ v1 v2 v3 = some r) (hok : gOk [.inr (.inr 0), .inl v1, .inl v2, .inl v3]) (hin : gIn gctM σ) : gCt gctM Y_Mo_save prog_9_method_49_code 6 (some .int) 9 216 [.inr (.inr 0), .inl v1, .inl v2, .inl v3] σ r := g_entry (by decide) rfl (Nat.le_of_ble_eq_true rfl) ho hok hin (fun X C => w_Mo_save C σ v1 v2 v3)
theorem D_Mo_nextIn_0 : decode prog_9_method_50_code 0 = .ok (.iload_n 2, 1) := by decide +kernel
theorem D_Mo_nextIn_1 : decode prog_9_method_50_code 1 = .ok (.istore_n 3, 1) := by decide +kernel
theorem D_Mo_nextIn_2 : decode prog_9_method_50_code 2 = .ok (.iload_n 3, 1) := by decide +kernel
theorem D_Mo_nextIn_3 : decode prog_9_method_50_code 3 = .ok (.aload_n 0, 1) := by decide +kernel
theorem D_Mo_nextIn_4 : decode prog_9_method_50_code 4 = .ok (.getfield 225, 3) := by decide +kernel
theorem D_Mo_nextIn_7 : decode prog_9_method_50_code 7 = .ok (.if_icmp .ge 19, 3) := by decide +kernel
theorem D_Mo_nextIn_10 : decode prog_9_method_50_code 10 = .ok (.aload_n 0, 1) := by decide +kernel
theorem D_Mo_nextIn_11 : decode prog_9_method_50_code 11 = .ok (.getfield 81, 3) := by decide +kernel
theorem D_Mo_nextIn_14 : decode prog_9_method_50_code 14 = .ok (.iload_n 3, 1) := by decide +kernel
theorem D_Mo_nextIn_15 : decode prog_9_method_50_code 15 = .ok (.iaload, 1) := by decide +kernel
theorem D_Mo_nextIn_16 : decode prog_9_method_50_code 16 = .ok (.iload_n 1, 1) := by decide +kernel
theorem D_Mo_nextIn_17 : decode prog_9_method_50_code 17 = .ok (.if_icmp .eq 9, 3) := by decide +kernel
theorem D_Mo_nextIn_20 : decode prog_9_method_50_code 20 = .ok (.iinc 3 1, 3) := by decide +kernel
theorem D_Mo_nextIn_23 : decode prog_9_method_50_code 23 = .ok (.goto (-21), 3) := by decide +kernel
theorem D_Mo_nextIn_26 : decode prog_9_method_50_code 26 = .ok (.iload_n 3, 1) := by decide +kernel
theorem D_Mo_nextIn_27 : decode prog_9_method_50_code 27 = .ok (.ireturn, 1) := by decide +kernel
def l_Mo_nextIn_2 (k1 : gM → Int → gO) (p1 : Int) (rec : gM → Int → gO) (σ : gM) (v3 : Int) : gO :=
  if v3 < (σ 0 29) then
  (gi v3 100 <|
  if (σ 20 v3) = p1 then
  (k1 σ v3)
  else
  (ga (v3 + 1) fun a1 =>
  rec σ a1))
  else
  (k1 σ v3)
set_option maxHeartbeats 4000000 in
theorem wl_Mo_nextIn_2 {X : gX} (C : gC gctM prog_9_method_50_code kR7 4 0 0 (some .int) X) {p1 : Int} {k1 : gM → Int → gO} (hk1 : ∀ (σ : gM) (a0 : Int), GG gctM X 26 [(3, .inl a0)] [] σ (k1 σ a0)) : ∀ (n : Nat) (σ : gM) (a0 : Int), GG gctM X 2 [(0, .inr (.inr 0)), (1, .inl p1), (3, .inl a0)] [] σ (gl1 (l_Mo_nextIn_2 k1 p1) n σ a0) := by
  refine gl1_run (P := fun σ a0 o => GG gctM X 2 [(0, .inr (.inr 0)), (1, .inl p1), (3, .inl a0)] [] σ o) (fun _ _ => g_none) (fun rec hrec σ v3 => ?_)
  unfold l_Mo_nextIn_2
  refine g_iload_n C D_Mo_nextIn_2 rfl 2 rfl ?_
  refine g_aload_n C D_Mo_nextIn_3 rfl 0 rfl ?_
  refine g_get (ci := 7) C 29 (jz := 29) rfl rfl kI7 rfl (by decide) rfl rfl wf_7_225 rfl D_Mo_nextIn_4 ?_
  refine g_icmp_ge (tgt := 26) C D_Mo_nextIn_7 (by decide) ?_ ?_
  · refine g_sub [2] rfl ?_
    exact hk1 _ _
  · refine g_aload_n C D_Mo_nextIn_10 rfl 0 rfl ?_
    refine g_getr (ci := 7) C 30 rfl kI7 rfl (by decide) rfl rfl wf_7_81 D_Mo_nextIn_11 ?_
    refine g_iload_n C D_Mo_nextIn_14 rfl 2 rfl ?_
    refine g_iald C rfl rfl rfl D_Mo_nextIn_15 ?_
    refine g_iload_n C D_Mo_nextIn_16 rfl 1 rfl ?_
    refine g_icmp_eq (tgt := 26) C D_Mo_nextIn_17 (by decide) ?_ ?_
    · refine g_sub [2] rfl ?_
      exact hk1 _ _
    · refine g_iinc (t := 2) (L' := fun z => [(3, .inl z), (0, .inr (.inr 0)), (1, .inl p1)]) C D_Mo_nextIn_20 rfl (by decide) (fun _ => rfl) (fun a1 => ?_)
      refine g_goto (tgt := 2) C D_Mo_nextIn_23 (by decide) ?_
      refine g_sub [1, 2, 0] rfl ?_
      exact hrec _ _
def j_Mo_nextIn_26 (σ : gM) (v3 : Int) : gO :=
  some (σ, v3)
set_option maxHeartbeats 4000000 in
theorem wj_Mo_nextIn_26 {X : gX} (C : gC gctM prog_9_method_50_code kR7 4 0 0 (some .int) X) (σ : gM) (v3 : Int) : GG gctM X 26 [(3, .inl v3)] [] σ (j_Mo_nextIn_26 σ v3) := by
  unfold j_Mo_nextIn_26
  refine g_iload_n C D_Mo_nextIn_26 rfl 0 rfl ?_
  exact g_iret C D_Mo_nextIn_27
def F_Mo_nextIn (σ : gM) (v1 v2 : Int) : gO :=
  gl1 (l_Mo_nextIn_2 (fun s2 b1 => j_Mo_nextIn_26 s2 b1) v1) 200 σ v2
set_option maxHeartbeats 4000000 in
theorem w_Mo_nextIn {X : gX} (C : gC gctM prog_9_method_50_code kR7 4 0 0 (some .int) X) (σ : gM) (v1 v2 : Int) : GG gctM X 0 [(0, .inr (.inr 0)), (1, .inl v1), (2, .inl v2)] [] σ (F_Mo_nextIn σ v1 v2) := by
  unfold F_Mo_nextIn
  refine g_iload_n C D_Mo_nextIn_0 rfl 2 rfl ?_
  refine g_istore_n (L' := [(3, .inl v2), (0, .inr (.inr 0)), (1, .inl v1), (2, .inl v2)]) C D_Mo_nextIn_1 rfl (by decide) rfl ?_
  refine g_sub [1, 2, 0] rfl ?_
  exact wl_Mo_nextIn_2 C (fun s2 b1 => by
      exact wj_Mo_nextIn_26 C _ _) 200 _ _
theorem c_Mo_nextIn {σ : gM} {v1 v2 : Int} {r : gR} (ho : F_Mo_nextIn σ v1 v2 = some r) (hok : gOk [.inr (.inr 0), .inl v1, .inl v2]) (hin : gIn gctM σ) : gCt gctM Y_Mo_nextIn prog_9_method_50_code 4 (some .int) 0 0 [.inr (.inr 0), .inl v1, .inl v2] σ r := g_entry (by decide) rfl (Nat.le_of_ble_eq_true rfl) ho hok hin (fun X C => w_Mo_nextIn C σ v1 v2)
theorem D_Mo_fewest_0 : decode prog_9_method_51_code 0 = .ok (.iload_n 1, 1) := by decide +kernel
theorem D_Mo_fewest_1 : decode prog_9_method_51_code 1 = .ok (.iconst 1, 1) := by decide +kernel
theorem D_Mo_fewest_2 : decode prog_9_method_51_code 2 = .ok (.bipush 16, 2) := by decide +kernel
theorem D_Mo_fewest_4 : decode prog_9_method_51_code 4 = .ok (.invokestatic 147, 3) := by decide +kernel
theorem D_Mo_fewest_7 : decode prog_9_method_51_code 7 = .ok (.ifCond .ne 5, 3) := by decide +kernel
theorem D_Mo_fewest_10 : decode prog_9_method_51_code 10 = .ok (.iconst (-1), 1) := by decide +kernel
theorem D_Mo_fewest_11 : decode prog_9_method_51_code 11 = .ok (.ireturn, 1) := by decide +kernel
theorem D_Mo_fewest_12 : decode prog_9_method_51_code 12 = .ok (.iconst 0, 1) := by decide +kernel
theorem D_Mo_fewest_13 : decode prog_9_method_51_code 13 = .ok (.istore_n 2, 1) := by decide +kernel
theorem D_Mo_fewest_14 : decode prog_9_method_51_code 14 = .ok (.iload_n 2, 1) := by decide +kernel
theorem D_Mo_fewest_15 : decode prog_9_method_51_code 15 = .ok (.bipush 32, 2) := by decide +kernel
theorem D_Mo_fewest_17 : decode prog_9_method_51_code 17 = .ok (.if_icmp .ge 16, 3) := by decide +kernel
theorem D_Mo_fewest_20 : decode prog_9_method_51_code 20 = .ok (.aload_n 0, 1) := by decide +kernel
theorem D_Mo_fewest_21 : decode prog_9_method_51_code 21 = .ok (.getfield 115, 3) := by decide +kernel
theorem D_Mo_fewest_24 : decode prog_9_method_51_code 24 = .ok (.iload_n 2, 1) := by decide +kernel
theorem D_Mo_fewest_25 : decode prog_9_method_51_code 25 = .ok (.iconst 0, 1) := by decide +kernel
theorem D_Mo_fewest_26 : decode prog_9_method_51_code 26 = .ok (.bastore, 1) := by decide +kernel
theorem D_Mo_fewest_27 : decode prog_9_method_51_code 27 = .ok (.iinc 2 1, 3) := by decide +kernel
theorem D_Mo_fewest_30 : decode prog_9_method_51_code 30 = .ok (.goto (-16), 3) := by decide +kernel
theorem D_Mo_fewest_33 : decode prog_9_method_51_code 33 = .ok (.iconst 0, 1) := by decide +kernel
theorem D_Mo_fewest_34 : decode prog_9_method_51_code 34 = .ok (.istore_n 2, 1) := by decide +kernel
theorem D_Mo_fewest_35 : decode prog_9_method_51_code 35 = .ok (.iconst 0, 1) := by decide +kernel
theorem D_Mo_fewest_36 : decode prog_9_method_51_code 36 = .ok (.istore_n 3, 1) := by decide +kernel
theorem D_Mo_fewest_37 : decode prog_9_method_51_code 37 = .ok (.iconst 0, 1) := by decide +kernel
theorem D_Mo_fewest_38 : decode prog_9_method_51_code 38 = .ok (.istore 4, 2) := by decide +kernel
theorem D_Mo_fewest_40 : decode prog_9_method_51_code 40 = .ok (.iload 4, 2) := by decide +kernel
theorem D_Mo_fewest_42 : decode prog_9_method_51_code 42 = .ok (.aload_n 0, 1) := by decide +kernel
theorem D_Mo_fewest_43 : decode prog_9_method_51_code 43 = .ok (.getfield 225, 3) := by decide +kernel
theorem D_Mo_fewest_46 : decode prog_9_method_51_code 46 = .ok (.if_icmp .ge 119, 3) := by decide +kernel
theorem D_Mo_fewest_49 : decode prog_9_method_51_code 49 = .ok (.aload_n 0, 1) := by decide +kernel
theorem D_Mo_fewest_50 : decode prog_9_method_51_code 50 = .ok (.getfield 115, 3) := by decide +kernel
theorem D_Mo_fewest_53 : decode prog_9_method_51_code 53 = .ok (.aload_n 0, 1) := by decide +kernel
theorem D_Mo_fewest_54 : decode prog_9_method_51_code 54 = .ok (.getfield 81, 3) := by decide +kernel
theorem D_Mo_fewest_57 : decode prog_9_method_51_code 57 = .ok (.iload 4, 2) := by decide +kernel
theorem D_Mo_fewest_59 : decode prog_9_method_51_code 59 = .ok (.iaload, 1) := by decide +kernel
theorem D_Mo_fewest_60 : decode prog_9_method_51_code 60 = .ok (.baload, 1) := by decide +kernel
theorem D_Mo_fewest_61 : decode prog_9_method_51_code 61 = .ok (.ifCond .ne 98, 3) := by decide +kernel
theorem D_Mo_fewest_64 : decode prog_9_method_51_code 64 = .ok (.iinc 3 1, 3) := by decide +kernel
theorem D_Mo_fewest_67 : decode prog_9_method_51_code 67 = .ok (.iload_n 2, 1) := by decide +kernel
theorem D_Mo_fewest_68 : decode prog_9_method_51_code 68 = .ok (.iload_n 1, 1) := by decide +kernel
theorem D_Mo_fewest_69 : decode prog_9_method_51_code 69 = .ok (.if_icmp .ne 74, 3) := by decide +kernel
theorem D_Mo_fewest_72 : decode prog_9_method_51_code 72 = .ok (.bipush (-4), 2) := by decide +kernel
theorem D_Mo_fewest_74 : decode prog_9_method_51_code 74 = .ok (.istore 5, 2) := by decide +kernel
theorem D_Mo_fewest_76 : decode prog_9_method_51_code 76 = .ok (.iconst 0, 1) := by decide +kernel
theorem D_Mo_fewest_77 : decode prog_9_method_51_code 77 = .ok (.istore 6, 2) := by decide +kernel
theorem D_Mo_fewest_79 : decode prog_9_method_51_code 79 = .ok (.iload 6, 2) := by decide +kernel
theorem D_Mo_fewest_81 : decode prog_9_method_51_code 81 = .ok (.bipush 32, 2) := by decide +kernel
theorem D_Mo_fewest_83 : decode prog_9_method_51_code 83 = .ok (.if_icmp .ge 49, 3) := by decide +kernel
theorem D_Mo_fewest_86 : decode prog_9_method_51_code 86 = .ok (.aload_n 0, 1) := by decide +kernel
theorem D_Mo_fewest_87 : decode prog_9_method_51_code 87 = .ok (.getfield 115, 3) := by decide +kernel
theorem D_Mo_fewest_90 : decode prog_9_method_51_code 90 = .ok (.iload 6, 2) := by decide +kernel
theorem D_Mo_fewest_92 : decode prog_9_method_51_code 92 = .ok (.baload, 1) := by decide +kernel
theorem D_Mo_fewest_93 : decode prog_9_method_51_code 93 = .ok (.ifCond .eq 33, 3) := by decide +kernel
theorem D_Mo_fewest_96 : decode prog_9_method_51_code 96 = .ok (.iload 5, 2) := by decide +kernel
theorem D_Mo_fewest_98 : decode prog_9_method_51_code 98 = .ok (.bipush (-4), 2) := by decide +kernel
theorem D_Mo_fewest_100 : decode prog_9_method_51_code 100 = .ok (.if_icmp .eq 22, 3) := by decide +kernel
theorem D_Mo_fewest_103 : decode prog_9_method_51_code 103 = .ok (.aload_n 0, 1) := by decide +kernel
theorem D_Mo_fewest_104 : decode prog_9_method_51_code 104 = .ok (.iload 6, 2) := by decide +kernel
theorem D_Mo_fewest_106 : decode prog_9_method_51_code 106 = .ok (.iload 4, 2) := by decide +kernel
theorem D_Mo_fewest_108 : decode prog_9_method_51_code 108 = .ok (.invokevirtual 269, 3) := by decide +kernel
theorem D_Mo_fewest_111 : decode prog_9_method_51_code 111 = .ok (.aload_n 0, 1) := by decide +kernel
theorem D_Mo_fewest_112 : decode prog_9_method_51_code 112 = .ok (.iload 5, 2) := by decide +kernel
theorem D_Mo_fewest_114 : decode prog_9_method_51_code 114 = .ok (.iload 4, 2) := by decide +kernel
theorem D_Mo_fewest_116 : decode prog_9_method_51_code 116 = .ok (.invokevirtual 269, 3) := by decide +kernel
theorem D_Mo_fewest_119 : decode prog_9_method_51_code 119 = .ok (.if_icmp .le 7, 3) := by decide +kernel
theorem D_Mo_fewest_122 : decode prog_9_method_51_code 122 = .ok (.iload 6, 2) := by decide +kernel
theorem D_Mo_fewest_124 : decode prog_9_method_51_code 124 = .ok (.istore 5, 2) := by decide +kernel
theorem D_Mo_fewest_126 : decode prog_9_method_51_code 126 = .ok (.iinc 6 1, 3) := by decide +kernel
theorem D_Mo_fewest_129 : decode prog_9_method_51_code 129 = .ok (.goto (-50), 3) := by decide +kernel
theorem D_Mo_fewest_132 : decode prog_9_method_51_code 132 = .ok (.aload_n 0, 1) := by decide +kernel
theorem D_Mo_fewest_133 : decode prog_9_method_51_code 133 = .ok (.getfield 115, 3) := by decide +kernel
theorem D_Mo_fewest_136 : decode prog_9_method_51_code 136 = .ok (.iload 5, 2) := by decide +kernel
theorem D_Mo_fewest_138 : decode prog_9_method_51_code 138 = .ok (.iconst 0, 1) := by decide +kernel
theorem D_Mo_fewest_139 : decode prog_9_method_51_code 139 = .ok (.bastore, 1) := by decide +kernel
theorem D_Mo_fewest_140 : decode prog_9_method_51_code 140 = .ok (.iinc 2 (-1), 3) := by decide +kernel
theorem D_Mo_fewest_143 : decode prog_9_method_51_code 143 = .ok (.aload_n 0, 1) := by decide +kernel
theorem D_Mo_fewest_144 : decode prog_9_method_51_code 144 = .ok (.getfield 115, 3) := by decide +kernel
theorem D_Mo_fewest_147 : decode prog_9_method_51_code 147 = .ok (.aload_n 0, 1) := by decide +kernel
theorem D_Mo_fewest_148 : decode prog_9_method_51_code 148 = .ok (.getfield 81, 3) := by decide +kernel
theorem D_Mo_fewest_151 : decode prog_9_method_51_code 151 = .ok (.iload 4, 2) := by decide +kernel
theorem D_Mo_fewest_153 : decode prog_9_method_51_code 153 = .ok (.iaload, 1) := by decide +kernel
theorem D_Mo_fewest_154 : decode prog_9_method_51_code 154 = .ok (.iconst 1, 1) := by decide +kernel
theorem D_Mo_fewest_155 : decode prog_9_method_51_code 155 = .ok (.bastore, 1) := by decide +kernel
theorem D_Mo_fewest_156 : decode prog_9_method_51_code 156 = .ok (.iinc 2 1, 3) := by decide +kernel
theorem D_Mo_fewest_159 : decode prog_9_method_51_code 159 = .ok (.iinc 4 1, 3) := by decide +kernel
theorem D_Mo_fewest_162 : decode prog_9_method_51_code 162 = .ok (.goto (-122), 3) := by decide +kernel
theorem D_Mo_fewest_165 : decode prog_9_method_51_code 165 = .ok (.iload_n 3, 1) := by decide +kernel
theorem D_Mo_fewest_166 : decode prog_9_method_51_code 166 = .ok (.ireturn, 1) := by decide +kernel
def l_Mo_fewest_14 (k1 : gM → gO) (p1 : Int) (rec : gM → Int → gO) (σ : gM) (v2 : Int) : gO :=
  if v2 < 32 then
  (gwb σ 31 32 v2 0 fun s1 =>
  ga (v2 + 1) fun a2 =>
  rec s1 a2)
  else
  (k1 σ)
set_option maxHeartbeats 4000000 in
theorem wl_Mo_fewest_14 {X : gX} (C : gC gctM prog_9_method_51_code kR7 7 1 23 (some .int) X) {p1 : Int} {k1 : gM → gO} (hk1 : ∀ (σ : gM), GG gctM X 33 [(0, .inr (.inr 0)), (1, .inl p1)] [] σ (k1 σ)) : ∀ (n : Nat) (σ : gM) (a0 : Int), GG gctM X 14 [(0, .inr (.inr 0)), (1, .inl p1), (2, .inl a0)] [] σ (gl1 (l_Mo_fewest_14 k1 p1) n σ a0) := by
  refine gl1_run (P := fun σ a0 o => GG gctM X 14 [(0, .inr (.inr 0)), (1, .inl p1), (2, .inl a0)] [] σ o) (fun _ _ => g_none) (fun rec hrec σ v2 => ?_)
  unfold l_Mo_fewest_14
  refine g_iload_n C D_Mo_fewest_14 rfl 2 rfl ?_
  refine g_bipush C D_Mo_fewest_15 (by decide) ⟨by decide, by decide⟩ ?_
  refine g_icmp_ge (tgt := 33) C D_Mo_fewest_17 (by decide) ?_ ?_
  · refine g_sub [0, 1] rfl ?_
    exact hk1 _
  · refine g_aload_n C D_Mo_fewest_20 rfl 0 rfl ?_
    refine g_getr (ci := 7) C 43 rfl kI7 rfl (by decide) rfl rfl wf_7_115 D_Mo_fewest_21 ?_
    refine g_iload_n C D_Mo_fewest_24 rfl 2 rfl ?_
    refine g_iconst C D_Mo_fewest_25 ⟨by decide, by decide⟩ ?_
    refine g_zast C rfl rfl D_Mo_fewest_26 (fun s1 => ?_)
    refine g_iinc (t := 2) (L' := fun z => [(2, .inl z), (0, .inr (.inr 0)), (1, .inl p1)]) C D_Mo_fewest_27 rfl (by decide) (fun _ => rfl) (fun a2 => ?_)
    refine g_goto (tgt := 14) C D_Mo_fewest_30 (by decide) ?_
    refine g_sub [1, 2, 0] rfl ?_
    exact hrec _ _
def j_Mo_fewest_159 (rec : gM → Int → Int → Int → gO) (σ : gM) (p1 v2 v3 v4 : Int) : gO :=
  ga (v4 + 1) fun a1 =>
  rec σ v2 v3 a1
set_option maxHeartbeats 4000000 in
theorem wj_Mo_fewest_159 {X : gX} (C : gC gctM prog_9_method_51_code kR7 7 1 23 (some .int) X) {p1 : Int} {rec : gM → Int → Int → Int → gO} (hrec : ∀ (σ : gM) (a0 a1 a2 : Int), GG gctM X 40 [(0, .inr (.inr 0)), (1, .inl p1), (2, .inl a0), (3, .inl a1), (4, .inl a2)] [] σ (rec σ a0 a1 a2)) (σ : gM) (v2 v3 v4 : Int) : GG gctM X 159 [(0, .inr (.inr 0)), (1, .inl p1), (2, .inl v2), (3, .inl v3), (4, .inl v4)] [] σ (j_Mo_fewest_159 rec σ p1 v2 v3 v4) := by
  unfold j_Mo_fewest_159
  refine g_iinc (t := 4) (L' := fun z => [(4, .inl z), (0, .inr (.inr 0)), (1, .inl p1), (2, .inl v2), (3, .inl v3)]) C D_Mo_fewest_159 rfl (by decide) (fun _ => rfl) (fun a1 => ?_)
  refine g_goto (tgt := 40) C D_Mo_fewest_162 (by decide) ?_
  refine g_sub [1, 2, 3, 4, 0] rfl ?_
  exact hrec _ _ _ _
def j_Mo_fewest_143 (rec : gM → Int → Int → Int → gO) (σ : gM) (p1 v2 v3 v4 : Int) : gO :=
  gi v4 100 <|
  gwb σ 31 32 (σ 20 v4) 1 fun s1 =>
  ga (v2 + 1) fun a2 =>
  j_Mo_fewest_159 rec s1 p1 a2 v3 v4
set_option maxHeartbeats 4000000 in
theorem wj_Mo_fewest_143 {X : gX} (C : gC gctM prog_9_method_51_code kR7 7 1 23 (some .int) X) {p1 : Int} {rec : gM → Int → Int → Int → gO} (hrec : ∀ (σ : gM) (a0 a1 a2 : Int), GG gctM X 40 [(0, .inr (.inr 0)), (1, .inl p1), (2, .inl a0), (3, .inl a1), (4, .inl a2)] [] σ (rec σ a0 a1 a2)) (σ : gM) (v2 v3 v4 : Int) : GG gctM X 143 [(0, .inr (.inr 0)), (1, .inl p1), (2, .inl v2), (3, .inl v3), (4, .inl v4)] [] σ (j_Mo_fewest_143 rec σ p1 v2 v3 v4) := by
  unfold j_Mo_fewest_143
  refine g_aload_n C D_Mo_fewest_143 rfl 0 rfl ?_
  refine g_getr (ci := 7) C 43 rfl kI7 rfl (by decide) rfl rfl wf_7_115 D_Mo_fewest_144 ?_
  refine g_aload_n C D_Mo_fewest_147 rfl 0 rfl ?_
  refine g_getr (ci := 7) C 30 rfl kI7 rfl (by decide) rfl rfl wf_7_81 D_Mo_fewest_148 ?_
  refine g_iload C D_Mo_fewest_151 4 rfl ?_
  refine g_iald C rfl rfl rfl D_Mo_fewest_153 ?_
  refine g_iconst C D_Mo_fewest_154 ⟨by decide, by decide⟩ ?_
  refine g_zast C rfl rfl D_Mo_fewest_155 (fun s1 => ?_)
  refine g_iinc (t := 2) (L' := fun z => [(2, .inl z), (0, .inr (.inr 0)), (1, .inl p1), (3, .inl v3), (4, .inl v4)]) C D_Mo_fewest_156 rfl (by decide) (fun _ => rfl) (fun a2 => ?_)
  refine g_sub [1, 2, 0, 3, 4] rfl ?_
  exact wj_Mo_fewest_159 C hrec _ _ _ _
def j_Mo_fewest_126 (k1 : gM → Int → gO) (rec : gM → Int → Int → gO) (σ : gM) (p1 p2 p3 p4 v5 v6 : Int) : gO :=
  ga (v6 + 1) fun a1 =>
  rec σ v5 a1
set_option maxHeartbeats 4000000 in
theorem wj_Mo_fewest_126 {X : gX} (C : gC gctM prog_9_method_51_code kR7 7 1 23 (some .int) X) {p1 p2 p3 p4 : Int} {k1 : gM → Int → gO} (hk1 : ∀ (σ : gM) (a0 : Int), GG gctM X 132 [(0, .inr (.inr 0)), (1, .inl p1), (2, .inl p2), (3, .inl p3), (4, .inl p4), (5, .inl a0)] [] σ (k1 σ a0)) {rec : gM → Int → Int → gO} (hrec : ∀ (σ : gM) (a0 a1 : Int), GG gctM X 79 [(0, .inr (.inr 0)), (1, .inl p1), (2, .inl p2), (3, .inl p3), (4, .inl p4), (5, .inl a0), (6, .inl a1)] [] σ (rec σ a0 a1)) (σ : gM) (v5 v6 : Int) : GG gctM X 126 [(0, .inr (.inr 0)), (1, .inl p1), (2, .inl p2), (3, .inl p3), (4, .inl p4), (5, .inl v5), (6, .inl v6)] [] σ (j_Mo_fewest_126 k1 rec σ p1 p2 p3 p4 v5 v6) := by
  unfold j_Mo_fewest_126
  refine g_iinc (t := 6) (L' := fun z => [(6, .inl z), (0, .inr (.inr 0)), (1, .inl p1), (2, .inl p2), (3, .inl p3), (4, .inl p4), (5, .inl v5)]) C D_Mo_fewest_126 rfl (by decide) (fun _ => rfl) (fun a1 => ?_)
  refine g_goto (tgt := 79) C D_Mo_fewest_129 (by decide) ?_
  refine g_sub [1, 2, 3, 4, 5, 6, 0] rfl ?_
  exact hrec _ _ _
def j_Mo_fewest_122 (k1 : gM → Int → gO) (rec : gM → Int → Int → gO) (σ : gM) (p1 p2 p3 p4 v6 : Int) : gO :=
  j_Mo_fewest_126 k1 rec σ p1 p2 p3 p4 v6 v6
set_option maxHeartbeats 4000000 in
theorem wj_Mo_fewest_122 {X : gX} (C : gC gctM prog_9_method_51_code kR7 7 1 23 (some .int) X) {p1 p2 p3 p4 : Int} {k1 : gM → Int → gO} (hk1 : ∀ (σ : gM) (a0 : Int), GG gctM X 132 [(0, .inr (.inr 0)), (1, .inl p1), (2, .inl p2), (3, .inl p3), (4, .inl p4), (5, .inl a0)] [] σ (k1 σ a0)) {rec : gM → Int → Int → gO} (hrec : ∀ (σ : gM) (a0 a1 : Int), GG gctM X 79 [(0, .inr (.inr 0)), (1, .inl p1), (2, .inl p2), (3, .inl p3), (4, .inl p4), (5, .inl a0), (6, .inl a1)] [] σ (rec σ a0 a1)) (σ : gM) (v6 : Int) : GG gctM X 122 [(0, .inr (.inr 0)), (1, .inl p1), (2, .inl p2), (3, .inl p3), (4, .inl p4), (6, .inl v6)] [] σ (j_Mo_fewest_122 k1 rec σ p1 p2 p3 p4 v6) := by
  unfold j_Mo_fewest_122
  refine g_iload C D_Mo_fewest_122 5 rfl ?_
  refine g_istore (L' := [(5, .inl v6), (0, .inr (.inr 0)), (1, .inl p1), (2, .inl p2), (3, .inl p3), (4, .inl p4), (6, .inl v6)]) C D_Mo_fewest_124 (by decide) rfl ?_
  refine g_sub [1, 2, 3, 4, 5, 0, 6] rfl ?_
  exact wj_Mo_fewest_126 C hk1 hrec _ _ _
def l_Mo_fewest_79 (k1 : gM → Int → gO) (p1 p2 p3 p4 : Int) (rec : gM → Int → Int → gO) (σ : gM) (v5 v6 : Int) : gO :=
  if v6 < 32 then
  (gi v6 32 <|
  if (σ 31 v6) = 0 then
  (j_Mo_fewest_126 k1 rec σ p1 p2 p3 p4 v5 v6)
  else
  (if v5 = (-4) then
  (j_Mo_fewest_122 k1 rec σ p1 p2 p3 p4 v6)
  else
  (gk (F_Mo_nextIn σ v6 p4) fun s1 a2 =>
  gk (F_Mo_nextIn s1 v5 p4) fun s3 a4 =>
  if a4 < a2 then
  (j_Mo_fewest_122 k1 rec s3 p1 p2 p3 p4 v6)
  else
  (j_Mo_fewest_126 k1 rec s3 p1 p2 p3 p4 v5 v6))))
  else
  (k1 σ v5)
set_option maxHeartbeats 4000000 in
theorem wl_Mo_fewest_79 {X : gX} (C : gC gctM prog_9_method_51_code kR7 7 1 23 (some .int) X) {p1 p2 p3 p4 : Int} {k1 : gM → Int → gO} (hk1 : ∀ (σ : gM) (a0 : Int), GG gctM X 132 [(0, .inr (.inr 0)), (1, .inl p1), (2, .inl p2), (3, .inl p3), (4, .inl p4), (5, .inl a0)] [] σ (k1 σ a0)) : ∀ (n : Nat) (σ : gM) (a0 a1 : Int), GG gctM X 79 [(0, .inr (.inr 0)), (1, .inl p1), (2, .inl p2), (3, .inl p3), (4, .inl p4), (5, .inl a0), (6, .inl a1)] [] σ (gl2 (l_Mo_fewest_79 k1 p1 p2 p3 p4) n σ a0 a1) := by
  refine gl2_run (P := fun σ a0 a1 o => GG gctM X 79 [(0, .inr (.inr 0)), (1, .inl p1), (2, .inl p2), (3, .inl p3), (4, .inl p4), (5, .inl a0), (6, .inl a1)] [] σ o) (fun _ _ _ => g_none) (fun rec hrec σ v5 v6 => ?_)
  unfold l_Mo_fewest_79
  refine g_iload C D_Mo_fewest_79 6 rfl ?_
  refine g_bipush C D_Mo_fewest_81 (by decide) ⟨by decide, by decide⟩ ?_
  refine g_icmp_ge (tgt := 132) C D_Mo_fewest_83 (by decide) ?_ ?_
  · refine g_sub [0, 1, 2, 3, 4, 5] rfl ?_
    exact hk1 _ _
  · refine g_aload_n C D_Mo_fewest_86 rfl 0 rfl ?_
    refine g_getr (ci := 7) C 43 rfl kI7 rfl (by decide) rfl rfl wf_7_115 D_Mo_fewest_87 ?_
    refine g_iload C D_Mo_fewest_90 6 rfl ?_
    refine g_zald C rfl rfl rfl D_Mo_fewest_92 ?_
    refine g_if_eq (tgt := 126) C D_Mo_fewest_93 (by decide) ?_ ?_
    · exact wj_Mo_fewest_126 C hk1 hrec _ _ _
    · refine g_iload C D_Mo_fewest_96 5 rfl ?_
      refine g_bipush C D_Mo_fewest_98 (by decide) ⟨by decide, by decide⟩ ?_
      refine g_icmp_eq (tgt := 122) C D_Mo_fewest_100 (by decide) ?_ ?_
      · refine g_sub [0, 1, 2, 3, 4, 6] rfl ?_
        exact wj_Mo_fewest_122 C hk1 hrec _ _
      · refine g_aload_n C D_Mo_fewest_103 rfl 0 rfl ?_
        refine g_iload C D_Mo_fewest_104 6 rfl ?_
        refine g_iload C D_Mo_fewest_106 4 rfl ?_
        refine g_callVi (ci := 7) C [.inl v6, .inl p4] [] (Or.inl rfl) rfl (fun _ h1 h2 h3 => c_Mo_nextIn h1 h2 h3) rfl rfl wc_7_269 (by decide) (Nat.le_of_ble_eq_true rfl) D_Mo_fewest_108 (fun s1 a2 => ?_)
        refine g_aload_n C D_Mo_fewest_111 rfl 0 rfl ?_
        refine g_iload C D_Mo_fewest_112 5 rfl ?_
        refine g_iload C D_Mo_fewest_114 4 rfl ?_
        refine g_callVi (ci := 7) C [.inl v5, .inl p4] [.inl a2] (Or.inl rfl) rfl (fun _ h1 h2 h3 => c_Mo_nextIn h1 h2 h3) rfl rfl wc_7_269 (by decide) (Nat.le_of_ble_eq_true rfl) D_Mo_fewest_116 (fun s3 a4 => ?_)
        refine g_icmp_le (tgt := 126) C D_Mo_fewest_119 (by decide) ?_ ?_
        · exact wj_Mo_fewest_126 C hk1 hrec _ _ _
        · refine g_sub [0, 1, 2, 3, 4, 6] rfl ?_
          exact wj_Mo_fewest_122 C hk1 hrec _ _
def l_Mo_fewest_40 (p1 : Int) (rec : gM → Int → Int → Int → gO) (σ : gM) (v2 v3 v4 : Int) : gO :=
  if v4 < (σ 0 29) then
  (gi v4 100 <|
  gi (σ 20 v4) 32 <|
  if (σ 31 (σ 20 v4)) = 0 then
  (ga (v3 + 1) fun a1 =>
  if v2 = p1 then
  (gl2 (l_Mo_fewest_79 (fun s3 b2 => gwb s3 31 32 b2 0 fun s4 =>
  ga (v2 + (-1)) fun a5 =>
  j_Mo_fewest_143 rec s4 p1 a5 a1 v4) p1 v2 a1 v4) 200 σ (-4) 0)
  else
  (j_Mo_fewest_143 rec σ p1 v2 a1 v4))
  else
  (j_Mo_fewest_159 rec σ p1 v2 v3 v4))
  else
  (some (σ, v3))
set_option maxHeartbeats 4000000 in
theorem wl_Mo_fewest_40 {X : gX} (C : gC gctM prog_9_method_51_code kR7 7 1 23 (some .int) X) {p1 : Int} : ∀ (n : Nat) (σ : gM) (a0 a1 a2 : Int), GG gctM X 40 [(0, .inr (.inr 0)), (1, .inl p1), (2, .inl a0), (3, .inl a1), (4, .inl a2)] [] σ (gl3 (l_Mo_fewest_40 p1) n σ a0 a1 a2) := by
  refine gl3_run (P := fun σ a0 a1 a2 o => GG gctM X 40 [(0, .inr (.inr 0)), (1, .inl p1), (2, .inl a0), (3, .inl a1), (4, .inl a2)] [] σ o) (fun _ _ _ _ => g_none) (fun rec hrec σ v2 v3 v4 => ?_)
  unfold l_Mo_fewest_40
  refine g_iload C D_Mo_fewest_40 4 rfl ?_
  refine g_aload_n C D_Mo_fewest_42 rfl 0 rfl ?_
  refine g_get (ci := 7) C 29 (jz := 29) rfl rfl kI7 rfl (by decide) rfl rfl wf_7_225 rfl D_Mo_fewest_43 ?_
  refine g_icmp_ge (tgt := 165) C D_Mo_fewest_46 (by decide) ?_ ?_
  · refine g_iload_n C D_Mo_fewest_165 rfl 3 rfl ?_
    exact g_iret C D_Mo_fewest_166
  · refine g_aload_n C D_Mo_fewest_49 rfl 0 rfl ?_
    refine g_getr (ci := 7) C 43 rfl kI7 rfl (by decide) rfl rfl wf_7_115 D_Mo_fewest_50 ?_
    refine g_aload_n C D_Mo_fewest_53 rfl 0 rfl ?_
    refine g_getr (ci := 7) C 30 rfl kI7 rfl (by decide) rfl rfl wf_7_81 D_Mo_fewest_54 ?_
    refine g_iload C D_Mo_fewest_57 4 rfl ?_
    refine g_iald C rfl rfl rfl D_Mo_fewest_59 ?_
    refine g_zald C rfl rfl rfl D_Mo_fewest_60 ?_
    refine g_if_ne (tgt := 159) C D_Mo_fewest_61 (by decide) ?_ ?_
    · exact wj_Mo_fewest_159 C hrec _ _ _ _
    · refine g_iinc (t := 3) (L' := fun z => [(3, .inl z), (0, .inr (.inr 0)), (1, .inl p1), (2, .inl v2), (4, .inl v4)]) C D_Mo_fewest_64 rfl (by decide) (fun _ => rfl) (fun a1 => ?_)
      refine g_iload_n C D_Mo_fewest_67 rfl 3 rfl ?_
      refine g_iload_n C D_Mo_fewest_68 rfl 2 rfl ?_
      refine g_icmp_ne (tgt := 143) C D_Mo_fewest_69 (by decide) ?_ ?_
      · refine g_sub [1, 2, 3, 0, 4] rfl ?_
        exact wj_Mo_fewest_143 C hrec _ _ _ _
      · refine g_bipush C D_Mo_fewest_72 (by decide) ⟨by decide, by decide⟩ ?_
        refine g_istore (L' := [(5, .inl (-4)), (3, .inl a1), (0, .inr (.inr 0)), (1, .inl p1), (2, .inl v2), (4, .inl v4)]) C D_Mo_fewest_74 (by decide) rfl ?_
        refine g_iconst C D_Mo_fewest_76 ⟨by decide, by decide⟩ ?_
        refine g_istore (L' := [(6, .inl 0), (5, .inl (-4)), (3, .inl a1), (0, .inr (.inr 0)), (1, .inl p1), (2, .inl v2), (4, .inl v4)]) C D_Mo_fewest_77 (by decide) rfl ?_
        refine g_sub [3, 4, 5, 2, 6, 1, 0] rfl ?_
        exact wl_Mo_fewest_79 C (fun s3 b2 => by
            refine g_aload_n C D_Mo_fewest_132 rfl 0 rfl ?_
            refine g_getr (ci := 7) C 43 rfl kI7 rfl (by decide) rfl rfl wf_7_115 D_Mo_fewest_133 ?_
            refine g_iload C D_Mo_fewest_136 5 rfl ?_
            refine g_iconst C D_Mo_fewest_138 ⟨by decide, by decide⟩ ?_
            refine g_zast C rfl rfl D_Mo_fewest_139 (fun s4 => ?_)
            refine g_iinc (t := 2) (L' := fun z => [(2, .inl z), (0, .inr (.inr 0)), (1, .inl p1), (3, .inl a1), (4, .inl v4), (5, .inl b2)]) C D_Mo_fewest_140 rfl (by decide) (fun _ => rfl) (fun a5 => ?_)
            refine g_sub [1, 2, 0, 3, 4] rfl ?_
            exact wj_Mo_fewest_143 C hrec _ _ _ _) 200 _ _ _
def F_Mo_fewest (σ : gM) (v1 : Int) : gO :=
  gk (F_Mo_in σ v1 1 16) fun s1 a2 =>
  if a2 = 0 then
  (some (s1, (-1)))
  else
  (gl1 (l_Mo_fewest_14 (fun s3 => gl3 (l_Mo_fewest_40 v1) 200 s3 0 0 0) v1) 200 s1 0)
set_option maxHeartbeats 4000000 in
theorem w_Mo_fewest {X : gX} (C : gC gctM prog_9_method_51_code kR7 7 1 23 (some .int) X) (σ : gM) (v1 : Int) : GG gctM X 0 [(0, .inr (.inr 0)), (1, .inl v1)] [] σ (F_Mo_fewest σ v1) := by
  unfold F_Mo_fewest
  refine g_iload_n C D_Mo_fewest_0 rfl 1 rfl ?_
  refine g_iconst C D_Mo_fewest_1 ⟨by decide, by decide⟩ ?_
  refine g_bipush C D_Mo_fewest_2 (by decide) ⟨by decide, by decide⟩ ?_
  refine g_callSi C [.inl v1, .inl 1, .inl 16] [] (Or.inr rfl) rfl (fun _ h1 h2 h3 => c_Mo_in h1 h2 h3) wc_7_147 (by decide) (Nat.le_of_ble_eq_true rfl) D_Mo_fewest_4 (fun s1 a2 => ?_)
  refine g_if_ne (tgt := 12) C D_Mo_fewest_7 (by decide) ?_ ?_
  · refine g_iconst C D_Mo_fewest_12 ⟨by decide, by decide⟩ ?_
    refine g_istore_n (L' := [(2, .inl 0), (0, .inr (.inr 0)), (1, .inl v1)]) C D_Mo_fewest_13 rfl (by decide) rfl ?_
    refine g_sub [1, 2, 0] rfl ?_
    exact wl_Mo_fewest_14 C (fun s3 => by
        refine g_iconst C D_Mo_fewest_33 ⟨by decide, by decide⟩ ?_
        refine g_istore_n (L' := [(2, .inl 0), (0, .inr (.inr 0)), (1, .inl v1)]) C D_Mo_fewest_34 rfl (by decide) rfl ?_
        refine g_iconst C D_Mo_fewest_35 ⟨by decide, by decide⟩ ?_
        refine g_istore_n (L' := [(3, .inl 0), (2, .inl 0), (0, .inr (.inr 0)), (1, .inl v1)]) C D_Mo_fewest_36 rfl (by decide) rfl ?_
        refine g_iconst C D_Mo_fewest_37 ⟨by decide, by decide⟩ ?_
        refine g_istore (L' := [(4, .inl 0), (3, .inl 0), (2, .inl 0), (0, .inr (.inr 0)), (1, .inl v1)]) C D_Mo_fewest_38 (by decide) rfl ?_
        refine g_sub [3, 4, 2, 1, 0] rfl ?_
        exact wl_Mo_fewest_40 C 200 _ _ _ _) 200 _ _
  · refine g_iconst C D_Mo_fewest_10 ⟨by decide, by decide⟩ ?_
    exact g_iret C D_Mo_fewest_11
theorem c_Mo_fewest {σ : gM} {v1 : Int} {r : gR} (ho : F_Mo_fewest σ v1 = some r) (hok : gOk [.inr (.inr 0), .inl v1]) (hin : gIn gctM σ) : gCt gctM Y_Mo_fewest prog_9_method_51_code 7 (some .int) 1 23 [.inr (.inr 0), .inl v1] σ r := g_entry (by decide) rfl (Nat.le_of_ble_eq_true rfl) ho hok hin (fun X C => w_Mo_fewest C σ v1)
theorem D_Mo_rounded_0 : decode prog_9_method_52_code 0 = .ok (.iload_n 0, 1) := by decide +kernel
theorem D_Mo_rounded_1 : decode prog_9_method_52_code 1 = .ok (.bipush 7, 2) := by decide +kernel
theorem D_Mo_rounded_3 : decode prog_9_method_52_code 3 = .ok (.iadd, 1) := by decide +kernel
theorem D_Mo_rounded_4 : decode prog_9_method_52_code 4 = .ok (.bipush 8, 2) := by decide +kernel
theorem D_Mo_rounded_6 : decode prog_9_method_52_code 6 = .ok (.idiv, 1) := by decide +kernel
theorem D_Mo_rounded_7 : decode prog_9_method_52_code 7 = .ok (.bipush 8, 2) := by decide +kernel
theorem D_Mo_rounded_9 : decode prog_9_method_52_code 9 = .ok (.imul, 1) := by decide +kernel
theorem D_Mo_rounded_10 : decode prog_9_method_52_code 10 = .ok (.ireturn, 1) := by decide +kernel
def F_Mo_rounded (σ : gM) (v0 : Int) : gO :=
  ga (v0 + 7) fun a1 =>
  gd a1 8 <|
  ga ((a1 / 8) * 8) fun a2 =>
  some (σ, a2)
set_option maxHeartbeats 4000000 in
theorem w_Mo_rounded {X : gX} (C : gC gctM prog_9_method_52_code kR7 1 0 0 (some .int) X) (σ : gM) (v0 : Int) : GG gctM X 0 [(0, .inl v0)] [] σ (F_Mo_rounded σ v0) := by
  unfold F_Mo_rounded
  refine g_iload_n C D_Mo_rounded_0 rfl 0 rfl ?_
  refine g_bipush C D_Mo_rounded_1 (by decide) ⟨by decide, by decide⟩ ?_
  refine g_iadd C D_Mo_rounded_3 (fun a1 => ?_)
  refine g_bipush C D_Mo_rounded_4 (by decide) ⟨by decide, by decide⟩ ?_
  refine g_idiv C D_Mo_rounded_6 ?_
  refine g_bipush C D_Mo_rounded_7 (by decide) ⟨by decide, by decide⟩ ?_
  refine g_imul C D_Mo_rounded_9 (fun a2 => ?_)
  exact g_iret C D_Mo_rounded_10
theorem c_Mo_rounded {σ : gM} {v0 : Int} {r : gR} (ho : F_Mo_rounded σ v0 = some r) (hok : gOk [.inl v0]) (hin : gIn gctM σ) : gCt gctM Y_Mo_rounded prog_9_method_52_code 1 (some .int) 0 0 [.inl v0] σ r := g_entry (by decide) rfl (Nat.le_of_ble_eq_true rfl) ho hok hin (fun X C => w_Mo_rounded C σ v0)
theorem D_Mo_firstFrom_0 : decode prog_9_method_53_code 0 = .ok (.bipush (-4), 2) := by decide +kernel
theorem D_Mo_firstFrom_2 : decode prog_9_method_53_code 2 = .ok (.istore_n 2, 1) := by decide +kernel
theorem D_Mo_firstFrom_3 : decode prog_9_method_53_code 3 = .ok (.iconst 0, 1) := by decide +kernel
theorem D_Mo_firstFrom_4 : decode prog_9_method_53_code 4 = .ok (.istore_n 3, 1) := by decide +kernel
theorem D_Mo_firstFrom_5 : decode prog_9_method_53_code 5 = .ok (.iload_n 3, 1) := by decide +kernel
theorem D_Mo_firstFrom_6 : decode prog_9_method_53_code 6 = .ok (.bipush 40, 2) := by decide +kernel
theorem D_Mo_firstFrom_8 : decode prog_9_method_53_code 8 = .ok (.if_icmp .ge 51, 3) := by decide +kernel
theorem D_Mo_firstFrom_11 : decode prog_9_method_53_code 11 = .ok (.aload_n 0, 1) := by decide +kernel
theorem D_Mo_firstFrom_12 : decode prog_9_method_53_code 12 = .ok (.getfield 84, 3) := by decide +kernel
theorem D_Mo_firstFrom_15 : decode prog_9_method_53_code 15 = .ok (.iload_n 3, 1) := by decide +kernel
theorem D_Mo_firstFrom_16 : decode prog_9_method_53_code 16 = .ok (.baload, 1) := by decide +kernel
theorem D_Mo_firstFrom_17 : decode prog_9_method_53_code 17 = .ok (.ifCond .eq 36, 3) := by decide +kernel
theorem D_Mo_firstFrom_20 : decode prog_9_method_53_code 20 = .ok (.aload_n 0, 1) := by decide +kernel
theorem D_Mo_firstFrom_21 : decode prog_9_method_53_code 21 = .ok (.getfield 87, 3) := by decide +kernel
theorem D_Mo_firstFrom_24 : decode prog_9_method_53_code 24 = .ok (.iload_n 3, 1) := by decide +kernel
theorem D_Mo_firstFrom_25 : decode prog_9_method_53_code 25 = .ok (.iaload, 1) := by decide +kernel
theorem D_Mo_firstFrom_26 : decode prog_9_method_53_code 26 = .ok (.iload_n 1, 1) := by decide +kernel
theorem D_Mo_firstFrom_27 : decode prog_9_method_53_code 27 = .ok (.if_icmp .lt 26, 3) := by decide +kernel
theorem D_Mo_firstFrom_30 : decode prog_9_method_53_code 30 = .ok (.iload_n 2, 1) := by decide +kernel
theorem D_Mo_firstFrom_31 : decode prog_9_method_53_code 31 = .ok (.bipush (-4), 2) := by decide +kernel
theorem D_Mo_firstFrom_33 : decode prog_9_method_53_code 33 = .ok (.if_icmp .eq 18, 3) := by decide +kernel
theorem D_Mo_firstFrom_36 : decode prog_9_method_53_code 36 = .ok (.aload_n 0, 1) := by decide +kernel
theorem D_Mo_firstFrom_37 : decode prog_9_method_53_code 37 = .ok (.getfield 87, 3) := by decide +kernel
theorem D_Mo_firstFrom_40 : decode prog_9_method_53_code 40 = .ok (.iload_n 3, 1) := by decide +kernel
theorem D_Mo_firstFrom_41 : decode prog_9_method_53_code 41 = .ok (.iaload, 1) := by decide +kernel
theorem D_Mo_firstFrom_42 : decode prog_9_method_53_code 42 = .ok (.aload_n 0, 1) := by decide +kernel
theorem D_Mo_firstFrom_43 : decode prog_9_method_53_code 43 = .ok (.getfield 87, 3) := by decide +kernel
theorem D_Mo_firstFrom_46 : decode prog_9_method_53_code 46 = .ok (.iload_n 2, 1) := by decide +kernel
theorem D_Mo_firstFrom_47 : decode prog_9_method_53_code 47 = .ok (.iaload, 1) := by decide +kernel
theorem D_Mo_firstFrom_48 : decode prog_9_method_53_code 48 = .ok (.if_icmp .ge 5, 3) := by decide +kernel
theorem D_Mo_firstFrom_51 : decode prog_9_method_53_code 51 = .ok (.iload_n 3, 1) := by decide +kernel
theorem D_Mo_firstFrom_52 : decode prog_9_method_53_code 52 = .ok (.istore_n 2, 1) := by decide +kernel
theorem D_Mo_firstFrom_53 : decode prog_9_method_53_code 53 = .ok (.iinc 3 1, 3) := by decide +kernel
theorem D_Mo_firstFrom_56 : decode prog_9_method_53_code 56 = .ok (.goto (-51), 3) := by decide +kernel
theorem D_Mo_firstFrom_59 : decode prog_9_method_53_code 59 = .ok (.iload_n 2, 1) := by decide +kernel
theorem D_Mo_firstFrom_60 : decode prog_9_method_53_code 60 = .ok (.ireturn, 1) := by decide +kernel
def j_Mo_firstFrom_53 (rec : gM → Int → Int → gO) (σ : gM) (p1 v2 v3 : Int) : gO :=
  ga (v3 + 1) fun a1 =>
  rec σ v2 a1
set_option maxHeartbeats 4000000 in
theorem wj_Mo_firstFrom_53 {X : gX} (C : gC gctM prog_9_method_53_code kR7 4 0 0 (some .int) X) {p1 : Int} {rec : gM → Int → Int → gO} (hrec : ∀ (σ : gM) (a0 a1 : Int), GG gctM X 5 [(0, .inr (.inr 0)), (1, .inl p1), (2, .inl a0), (3, .inl a1)] [] σ (rec σ a0 a1)) (σ : gM) (v2 v3 : Int) : GG gctM X 53 [(0, .inr (.inr 0)), (1, .inl p1), (2, .inl v2), (3, .inl v3)] [] σ (j_Mo_firstFrom_53 rec σ p1 v2 v3) := by
  unfold j_Mo_firstFrom_53
  refine g_iinc (t := 3) (L' := fun z => [(3, .inl z), (0, .inr (.inr 0)), (1, .inl p1), (2, .inl v2)]) C D_Mo_firstFrom_53 rfl (by decide) (fun _ => rfl) (fun a1 => ?_)
  refine g_goto (tgt := 5) C D_Mo_firstFrom_56 (by decide) ?_
  refine g_sub [1, 2, 3, 0] rfl ?_
  exact hrec _ _ _
def j_Mo_firstFrom_51 (rec : gM → Int → Int → gO) (σ : gM) (p1 v3 : Int) : gO :=
  j_Mo_firstFrom_53 rec σ p1 v3 v3
set_option maxHeartbeats 4000000 in
theorem wj_Mo_firstFrom_51 {X : gX} (C : gC gctM prog_9_method_53_code kR7 4 0 0 (some .int) X) {p1 : Int} {rec : gM → Int → Int → gO} (hrec : ∀ (σ : gM) (a0 a1 : Int), GG gctM X 5 [(0, .inr (.inr 0)), (1, .inl p1), (2, .inl a0), (3, .inl a1)] [] σ (rec σ a0 a1)) (σ : gM) (v3 : Int) : GG gctM X 51 [(0, .inr (.inr 0)), (1, .inl p1), (3, .inl v3)] [] σ (j_Mo_firstFrom_51 rec σ p1 v3) := by
  unfold j_Mo_firstFrom_51
  refine g_iload_n C D_Mo_firstFrom_51 rfl 2 rfl ?_
  refine g_istore_n (L' := [(2, .inl v3), (0, .inr (.inr 0)), (1, .inl p1), (3, .inl v3)]) C D_Mo_firstFrom_52 rfl (by decide) rfl ?_
  refine g_sub [1, 2, 0, 3] rfl ?_
  exact wj_Mo_firstFrom_53 C hrec _ _ _
def l_Mo_firstFrom_5 (p1 : Int) (rec : gM → Int → Int → gO) (σ : gM) (v2 v3 : Int) : gO :=
  if v3 < 40 then
  (gi v3 40 <|
  if (σ 21 v3) = 0 then
  (j_Mo_firstFrom_53 rec σ p1 v2 v3)
  else
  (gi v3 40 <|
  if (σ 22 v3) < p1 then
  (j_Mo_firstFrom_53 rec σ p1 v2 v3)
  else
  (if v2 = (-4) then
  (j_Mo_firstFrom_51 rec σ p1 v3)
  else
  (gi v3 40 <|
  gi v2 40 <|
  if (σ 22 v3) < (σ 22 v2) then
  (j_Mo_firstFrom_51 rec σ p1 v3)
  else
  (j_Mo_firstFrom_53 rec σ p1 v2 v3)))))
  else
  (some (σ, v2))
set_option maxHeartbeats 4000000 in
theorem wl_Mo_firstFrom_5 {X : gX} (C : gC gctM prog_9_method_53_code kR7 4 0 0 (some .int) X) {p1 : Int} : ∀ (n : Nat) (σ : gM) (a0 a1 : Int), GG gctM X 5 [(0, .inr (.inr 0)), (1, .inl p1), (2, .inl a0), (3, .inl a1)] [] σ (gl2 (l_Mo_firstFrom_5 p1) n σ a0 a1) := by
  refine gl2_run (P := fun σ a0 a1 o => GG gctM X 5 [(0, .inr (.inr 0)), (1, .inl p1), (2, .inl a0), (3, .inl a1)] [] σ o) (fun _ _ _ => g_none) (fun rec hrec σ v2 v3 => ?_)
  unfold l_Mo_firstFrom_5
  refine g_iload_n C D_Mo_firstFrom_5 rfl 3 rfl ?_
  refine g_bipush C D_Mo_firstFrom_6 (by decide) ⟨by decide, by decide⟩ ?_
  refine g_icmp_ge (tgt := 59) C D_Mo_firstFrom_8 (by decide) ?_ ?_
  · refine g_iload_n C D_Mo_firstFrom_59 rfl 2 rfl ?_
    exact g_iret C D_Mo_firstFrom_60
  · refine g_aload_n C D_Mo_firstFrom_11 rfl 0 rfl ?_
    refine g_getr (ci := 7) C 32 rfl kI7 rfl (by decide) rfl rfl wf_7_84 D_Mo_firstFrom_12 ?_
    refine g_iload_n C D_Mo_firstFrom_15 rfl 3 rfl ?_
    refine g_zald C rfl rfl rfl D_Mo_firstFrom_16 ?_
    refine g_if_eq (tgt := 53) C D_Mo_firstFrom_17 (by decide) ?_ ?_
    · exact wj_Mo_firstFrom_53 C hrec _ _ _
    · refine g_aload_n C D_Mo_firstFrom_20 rfl 0 rfl ?_
      refine g_getr (ci := 7) C 33 rfl kI7 rfl (by decide) rfl rfl wf_7_87 D_Mo_firstFrom_21 ?_
      refine g_iload_n C D_Mo_firstFrom_24 rfl 3 rfl ?_
      refine g_iald C rfl rfl rfl D_Mo_firstFrom_25 ?_
      refine g_iload_n C D_Mo_firstFrom_26 rfl 1 rfl ?_
      refine g_icmp_lt (tgt := 53) C D_Mo_firstFrom_27 (by decide) ?_ ?_
      · exact wj_Mo_firstFrom_53 C hrec _ _ _
      · refine g_iload_n C D_Mo_firstFrom_30 rfl 2 rfl ?_
        refine g_bipush C D_Mo_firstFrom_31 (by decide) ⟨by decide, by decide⟩ ?_
        refine g_icmp_eq (tgt := 51) C D_Mo_firstFrom_33 (by decide) ?_ ?_
        · refine g_sub [0, 1, 3] rfl ?_
          exact wj_Mo_firstFrom_51 C hrec _ _
        · refine g_aload_n C D_Mo_firstFrom_36 rfl 0 rfl ?_
          refine g_getr (ci := 7) C 33 rfl kI7 rfl (by decide) rfl rfl wf_7_87 D_Mo_firstFrom_37 ?_
          refine g_iload_n C D_Mo_firstFrom_40 rfl 3 rfl ?_
          refine g_iald C rfl rfl rfl D_Mo_firstFrom_41 ?_
          refine g_aload_n C D_Mo_firstFrom_42 rfl 0 rfl ?_
          refine g_getr (ci := 7) C 33 rfl kI7 rfl (by decide) rfl rfl wf_7_87 D_Mo_firstFrom_43 ?_
          refine g_iload_n C D_Mo_firstFrom_46 rfl 2 rfl ?_
          refine g_iald C rfl rfl rfl D_Mo_firstFrom_47 ?_
          refine g_icmp_ge (tgt := 53) C D_Mo_firstFrom_48 (by decide) ?_ ?_
          · exact wj_Mo_firstFrom_53 C hrec _ _ _
          · refine g_sub [0, 1, 3] rfl ?_
            exact wj_Mo_firstFrom_51 C hrec _ _
def F_Mo_firstFrom (σ : gM) (v1 : Int) : gO :=
  gl2 (l_Mo_firstFrom_5 v1) 200 σ (-4) 0
set_option maxHeartbeats 4000000 in
theorem w_Mo_firstFrom {X : gX} (C : gC gctM prog_9_method_53_code kR7 4 0 0 (some .int) X) (σ : gM) (v1 : Int) : GG gctM X 0 [(0, .inr (.inr 0)), (1, .inl v1)] [] σ (F_Mo_firstFrom σ v1) := by
  unfold F_Mo_firstFrom
  refine g_bipush C D_Mo_firstFrom_0 (by decide) ⟨by decide, by decide⟩ ?_
  refine g_istore_n (L' := [(2, .inl (-4)), (0, .inr (.inr 0)), (1, .inl v1)]) C D_Mo_firstFrom_2 rfl (by decide) rfl ?_
  refine g_iconst C D_Mo_firstFrom_3 ⟨by decide, by decide⟩ ?_
  refine g_istore_n (L' := [(3, .inl 0), (2, .inl (-4)), (0, .inr (.inr 0)), (1, .inl v1)]) C D_Mo_firstFrom_4 rfl (by decide) rfl ?_
  refine g_sub [2, 3, 1, 0] rfl ?_
  exact wl_Mo_firstFrom_5 C 200 _ _ _
theorem c_Mo_firstFrom {σ : gM} {v1 : Int} {r : gR} (ho : F_Mo_firstFrom σ v1 = some r) (hok : gOk [.inr (.inr 0), .inl v1]) (hin : gIn gctM σ) : gCt gctM Y_Mo_firstFrom prog_9_method_53_code 4 (some .int) 0 0 [.inr (.inr 0), .inl v1] σ r := g_entry (by decide) rfl (Nat.le_of_ble_eq_true rfl) ho hok hin (fun X C => w_Mo_firstFrom C σ v1)
theorem D_Mo_nextRoom_0 : decode prog_9_method_54_code 0 = .ok (.iload_n 1, 1) := by decide +kernel
theorem D_Mo_nextRoom_1 : decode prog_9_method_54_code 1 = .ok (.istore_n 2, 1) := by decide +kernel
theorem D_Mo_nextRoom_2 : decode prog_9_method_54_code 2 = .ok (.aload_n 0, 1) := by decide +kernel
theorem D_Mo_nextRoom_3 : decode prog_9_method_54_code 3 = .ok (.iload_n 2, 1) := by decide +kernel
theorem D_Mo_nextRoom_4 : decode prog_9_method_54_code 4 = .ok (.invokevirtual 272, 3) := by decide +kernel
theorem D_Mo_nextRoom_7 : decode prog_9_method_54_code 7 = .ok (.istore_n 3, 1) := by decide +kernel
theorem D_Mo_nextRoom_8 : decode prog_9_method_54_code 8 = .ok (.iload_n 3, 1) := by decide +kernel
theorem D_Mo_nextRoom_9 : decode prog_9_method_54_code 9 = .ok (.bipush (-4), 2) := by decide +kernel
theorem D_Mo_nextRoom_11 : decode prog_9_method_54_code 11 = .ok (.if_icmp .eq 34, 3) := by decide +kernel
theorem D_Mo_nextRoom_14 : decode prog_9_method_54_code 14 = .ok (.aload_n 0, 1) := by decide +kernel
theorem D_Mo_nextRoom_15 : decode prog_9_method_54_code 15 = .ok (.getfield 87, 3) := by decide +kernel
theorem D_Mo_nextRoom_18 : decode prog_9_method_54_code 18 = .ok (.iload_n 3, 1) := by decide +kernel
theorem D_Mo_nextRoom_19 : decode prog_9_method_54_code 19 = .ok (.iaload, 1) := by decide +kernel
theorem D_Mo_nextRoom_20 : decode prog_9_method_54_code 20 = .ok (.iload_n 2, 1) := by decide +kernel
theorem D_Mo_nextRoom_21 : decode prog_9_method_54_code 21 = .ok (.if_icmp .ne 24, 3) := by decide +kernel
theorem D_Mo_nextRoom_24 : decode prog_9_method_54_code 24 = .ok (.iload_n 2, 1) := by decide +kernel
theorem D_Mo_nextRoom_25 : decode prog_9_method_54_code 25 = .ok (.aload_n 0, 1) := by decide +kernel
theorem D_Mo_nextRoom_26 : decode prog_9_method_54_code 26 = .ok (.getfield 90, 3) := by decide +kernel
theorem D_Mo_nextRoom_29 : decode prog_9_method_54_code 29 = .ok (.iload_n 3, 1) := by decide +kernel
theorem D_Mo_nextRoom_30 : decode prog_9_method_54_code 30 = .ok (.iaload, 1) := by decide +kernel
theorem D_Mo_nextRoom_31 : decode prog_9_method_54_code 31 = .ok (.invokestatic 275, 3) := by decide +kernel
theorem D_Mo_nextRoom_34 : decode prog_9_method_54_code 34 = .ok (.iadd, 1) := by decide +kernel
theorem D_Mo_nextRoom_35 : decode prog_9_method_54_code 35 = .ok (.istore_n 2, 1) := by decide +kernel
theorem D_Mo_nextRoom_36 : decode prog_9_method_54_code 36 = .ok (.aload_n 0, 1) := by decide +kernel
theorem D_Mo_nextRoom_37 : decode prog_9_method_54_code 37 = .ok (.iload_n 2, 1) := by decide +kernel
theorem D_Mo_nextRoom_38 : decode prog_9_method_54_code 38 = .ok (.invokevirtual 272, 3) := by decide +kernel
theorem D_Mo_nextRoom_41 : decode prog_9_method_54_code 41 = .ok (.istore_n 3, 1) := by decide +kernel
theorem D_Mo_nextRoom_42 : decode prog_9_method_54_code 42 = .ok (.goto (-34), 3) := by decide +kernel
theorem D_Mo_nextRoom_45 : decode prog_9_method_54_code 45 = .ok (.aload_n 0, 1) := by decide +kernel
theorem D_Mo_nextRoom_46 : decode prog_9_method_54_code 46 = .ok (.iload_n 2, 1) := by decide +kernel
theorem D_Mo_nextRoom_47 : decode prog_9_method_54_code 47 = .ok (.putfield 278, 3) := by decide +kernel
theorem D_Mo_nextRoom_50 : decode prog_9_method_54_code 50 = .ok (.aload_n 0, 1) := by decide +kernel
theorem D_Mo_nextRoom_51 : decode prog_9_method_54_code 51 = .ok (.iload_n 3, 1) := by decide +kernel
theorem D_Mo_nextRoom_52 : decode prog_9_method_54_code 52 = .ok (.bipush (-4), 2) := by decide +kernel
theorem D_Mo_nextRoom_54 : decode prog_9_method_54_code 54 = .ok (.if_icmp .ne 9, 3) := by decide +kernel
theorem D_Mo_nextRoom_57 : decode prog_9_method_54_code 57 = .ok (.sipush 1024, 3) := by decide +kernel
theorem D_Mo_nextRoom_60 : decode prog_9_method_54_code 60 = .ok (.goto 9, 3) := by decide +kernel
theorem D_Mo_nextRoom_63 : decode prog_9_method_54_code 63 = .ok (.aload_n 0, 1) := by decide +kernel
theorem D_Mo_nextRoom_64 : decode prog_9_method_54_code 64 = .ok (.getfield 87, 3) := by decide +kernel
theorem D_Mo_nextRoom_67 : decode prog_9_method_54_code 67 = .ok (.iload_n 3, 1) := by decide +kernel
theorem D_Mo_nextRoom_68 : decode prog_9_method_54_code 68 = .ok (.iaload, 1) := by decide +kernel
theorem D_Mo_nextRoom_69 : decode prog_9_method_54_code 69 = .ok (.iload_n 2, 1) := by decide +kernel
theorem D_Mo_nextRoom_70 : decode prog_9_method_54_code 70 = .ok (.isub, 1) := by decide +kernel
theorem D_Mo_nextRoom_71 : decode prog_9_method_54_code 71 = .ok (.putfield 281, 3) := by decide +kernel
theorem D_Mo_nextRoom_74 : decode prog_9_method_54_code 74 = .ok (.aload_n 0, 1) := by decide +kernel
theorem D_Mo_nextRoom_75 : decode prog_9_method_54_code 75 = .ok (.getfield 281, 3) := by decide +kernel
theorem D_Mo_nextRoom_78 : decode prog_9_method_54_code 78 = .ok (.ifCond .le 7, 3) := by decide +kernel
theorem D_Mo_nextRoom_81 : decode prog_9_method_54_code 81 = .ok (.iconst 1, 1) := by decide +kernel
theorem D_Mo_nextRoom_82 : decode prog_9_method_54_code 82 = .ok (.goto 4, 3) := by decide +kernel
theorem D_Mo_nextRoom_85 : decode prog_9_method_54_code 85 = .ok (.iconst 0, 1) := by decide +kernel
theorem D_Mo_nextRoom_86 : decode prog_9_method_54_code 86 = .ok (.ireturn, 1) := by decide +kernel
def l_Mo_nextRoom_8 (k1 : gM → Int → Int → gO) (rec : gM → Int → Int → gO) (σ : gM) (v2 v3 : Int) : gO :=
  if v3 = (-4) then
  (k1 σ v2 v3)
  else
  (gi v3 40 <|
  if (σ 22 v3) = v2 then
  (gi v3 40 <|
  gk (F_Mo_rounded σ (σ 23 v3)) fun s1 a2 =>
  ga (v2 + a2) fun a3 =>
  gk (F_Mo_firstFrom s1 a3) fun s4 a5 =>
  rec s4 a3 a5)
  else
  (k1 σ v2 v3))
set_option maxHeartbeats 4000000 in
theorem wl_Mo_nextRoom_8 {X : gX} (C : gC gctM prog_9_method_54_code kR7 4 1 23 (some .boolean) X) {k1 : gM → Int → Int → gO} (hk1 : ∀ (σ : gM) (a0 a1 : Int), GG gctM X 45 [(0, .inr (.inr 0)), (2, .inl a0), (3, .inl a1)] [] σ (k1 σ a0 a1)) : ∀ (n : Nat) (σ : gM) (a0 a1 : Int), GG gctM X 8 [(0, .inr (.inr 0)), (2, .inl a0), (3, .inl a1)] [] σ (gl2 (l_Mo_nextRoom_8 k1) n σ a0 a1) := by
  refine gl2_run (P := fun σ a0 a1 o => GG gctM X 8 [(0, .inr (.inr 0)), (2, .inl a0), (3, .inl a1)] [] σ o) (fun _ _ _ => g_none) (fun rec hrec σ v2 v3 => ?_)
  unfold l_Mo_nextRoom_8
  refine g_iload_n C D_Mo_nextRoom_8 rfl 2 rfl ?_
  refine g_bipush C D_Mo_nextRoom_9 (by decide) ⟨by decide, by decide⟩ ?_
  refine g_icmp_eq (tgt := 45) C D_Mo_nextRoom_11 (by decide) ?_ ?_
  · exact hk1 _ _ _
  · refine g_aload_n C D_Mo_nextRoom_14 rfl 0 rfl ?_
    refine g_getr (ci := 7) C 33 rfl kI7 rfl (by decide) rfl rfl wf_7_87 D_Mo_nextRoom_15 ?_
    refine g_iload_n C D_Mo_nextRoom_18 rfl 2 rfl ?_
    refine g_iald C rfl rfl rfl D_Mo_nextRoom_19 ?_
    refine g_iload_n C D_Mo_nextRoom_20 rfl 1 rfl ?_
    refine g_icmp_ne (tgt := 45) C D_Mo_nextRoom_21 (by decide) ?_ ?_
    · exact hk1 _ _ _
    · refine g_iload_n C D_Mo_nextRoom_24 rfl 1 rfl ?_
      refine g_aload_n C D_Mo_nextRoom_25 rfl 0 rfl ?_
      refine g_getr (ci := 7) C 34 rfl kI7 rfl (by decide) rfl rfl wf_7_90 D_Mo_nextRoom_26 ?_
      refine g_iload_n C D_Mo_nextRoom_29 rfl 2 rfl ?_
      refine g_iald C rfl rfl rfl D_Mo_nextRoom_30 ?_
      refine g_callSi C [.inl (σ 23 v3)] [.inl v2] (Or.inl rfl) rfl (fun _ h1 h2 h3 => c_Mo_rounded h1 h2 h3) wc_7_275 (by decide) (Nat.le_of_ble_eq_true rfl) D_Mo_nextRoom_31 (fun s1 a2 => ?_)
      refine g_iadd C D_Mo_nextRoom_34 (fun a3 => ?_)
      refine g_istore_n (L' := [(2, .inl a3), (0, .inr (.inr 0)), (3, .inl v3)]) C D_Mo_nextRoom_35 rfl (by decide) rfl ?_
      refine g_aload_n C D_Mo_nextRoom_36 rfl 1 rfl ?_
      refine g_iload_n C D_Mo_nextRoom_37 rfl 0 rfl ?_
      refine g_callVi (ci := 7) C [.inl a3] [] (Or.inl rfl) rfl (fun _ h1 h2 h3 => c_Mo_firstFrom h1 h2 h3) rfl rfl wc_7_272 (by decide) (Nat.le_of_ble_eq_true rfl) D_Mo_nextRoom_38 (fun s4 a5 => ?_)
      refine g_istore_n (L' := [(3, .inl a5), (2, .inl a3), (0, .inr (.inr 0))]) C D_Mo_nextRoom_41 rfl (by decide) rfl ?_
      refine g_goto (tgt := 8) C D_Mo_nextRoom_42 (by decide) ?_
      refine g_sub [2, 1, 0] rfl ?_
      exact hrec _ _ _
def j_Mo_nextRoom_86 (σ : gM) (t0 : Int) : gO :=
  gb t0 (some (σ, t0))
set_option maxHeartbeats 4000000 in
theorem wj_Mo_nextRoom_86 {X : gX} (C : gC gctM prog_9_method_54_code kR7 4 1 23 (some .boolean) X) (σ : gM) (t0 : Int) : GG gctM X 86 [] [.inl t0] σ (j_Mo_nextRoom_86 σ t0) := by
  unfold j_Mo_nextRoom_86
  exact g_zret C D_Mo_nextRoom_86
def j_Mo_nextRoom_69_0 (σ : gM) (v2 t0 : Int) : gO :=
  ga (t0 - v2) fun a1 =>
  gp σ 0 45 a1 fun s2 =>
  if 0 < (s2 0 45) then
  (j_Mo_nextRoom_86 s2 1)
  else
  (j_Mo_nextRoom_86 s2 0)
set_option maxHeartbeats 4000000 in
theorem wj_Mo_nextRoom_69_0 {X : gX} (C : gC gctM prog_9_method_54_code kR7 4 1 23 (some .boolean) X) (σ : gM) (v2 t0 : Int) : GG gctM X 69 [(0, .inr (.inr 0)), (2, .inl v2)] [.inl t0, .inr (.inr 0)] σ (j_Mo_nextRoom_69_0 σ v2 t0) := by
  unfold j_Mo_nextRoom_69_0
  refine g_iload_n C D_Mo_nextRoom_69 rfl 1 rfl ?_
  refine g_isub C D_Mo_nextRoom_70 (fun a1 => ?_)
  refine g_putI (ci := 7) C 45 (jz := 45) rfl rfl kI7 kO7 kN7 rfl (by decide) rfl rfl wf_7_281 D_Mo_nextRoom_71 (fun s2 => ?_)
  refine g_aload_n C D_Mo_nextRoom_74 rfl 0 rfl ?_
  refine g_get (ci := 7) C 45 (jz := 45) rfl rfl kI7 rfl (by decide) rfl rfl wf_7_281 rfl D_Mo_nextRoom_75 ?_
  refine g_if_le (tgt := 85) C D_Mo_nextRoom_78 (by decide) ?_ ?_
  · refine g_iconst C D_Mo_nextRoom_85 ⟨by decide, by decide⟩ ?_
    refine g_sub [] rfl ?_
    exact wj_Mo_nextRoom_86 C _ _
  · refine g_iconst C D_Mo_nextRoom_81 ⟨by decide, by decide⟩ ?_
    refine g_goto (tgt := 86) C D_Mo_nextRoom_82 (by decide) ?_
    refine g_sub [] rfl ?_
    exact wj_Mo_nextRoom_86 C _ _
def j_Mo_nextRoom_45 (σ : gM) (v2 v3 : Int) : gO :=
  gp σ 0 44 v2 fun s1 =>
  if v3 = (-4) then
  (j_Mo_nextRoom_69_0 s1 v2 1024)
  else
  (gi v3 40 <|
  j_Mo_nextRoom_69_0 s1 v2 (s1 22 v3))
set_option maxHeartbeats 4000000 in
theorem wj_Mo_nextRoom_45 {X : gX} (C : gC gctM prog_9_method_54_code kR7 4 1 23 (some .boolean) X) (σ : gM) (v2 v3 : Int) : GG gctM X 45 [(0, .inr (.inr 0)), (2, .inl v2), (3, .inl v3)] [] σ (j_Mo_nextRoom_45 σ v2 v3) := by
  unfold j_Mo_nextRoom_45
  refine g_aload_n C D_Mo_nextRoom_45 rfl 0 rfl ?_
  refine g_iload_n C D_Mo_nextRoom_46 rfl 1 rfl ?_
  refine g_putI (ci := 7) C 44 (jz := 44) rfl rfl kI7 kO7 kN7 rfl (by decide) rfl rfl wf_7_278 D_Mo_nextRoom_47 (fun s1 => ?_)
  refine g_aload_n C D_Mo_nextRoom_50 rfl 0 rfl ?_
  refine g_iload_n C D_Mo_nextRoom_51 rfl 2 rfl ?_
  refine g_bipush C D_Mo_nextRoom_52 (by decide) ⟨by decide, by decide⟩ ?_
  refine g_icmp_ne (tgt := 63) C D_Mo_nextRoom_54 (by decide) ?_ ?_
  · refine g_aload_n C D_Mo_nextRoom_63 rfl 0 rfl ?_
    refine g_getr (ci := 7) C 33 rfl kI7 rfl (by decide) rfl rfl wf_7_87 D_Mo_nextRoom_64 ?_
    refine g_iload_n C D_Mo_nextRoom_67 rfl 2 rfl ?_
    refine g_iald C rfl rfl rfl D_Mo_nextRoom_68 ?_
    refine g_sub [0, 1] rfl ?_
    exact wj_Mo_nextRoom_69_0 C _ _ _
  · refine g_sipush C D_Mo_nextRoom_57 (by decide) ⟨by decide, by decide⟩ ?_
    refine g_goto (tgt := 69) C D_Mo_nextRoom_60 (by decide) ?_
    refine g_sub [0, 1] rfl ?_
    exact wj_Mo_nextRoom_69_0 C _ _ _
def F_Mo_nextRoom (σ : gM) (v1 : Int) : gO :=
  gk (F_Mo_firstFrom σ v1) fun s1 a2 =>
  gl2 (l_Mo_nextRoom_8 (fun s5 b3 b4 => j_Mo_nextRoom_45 s5 b3 b4)) 200 s1 v1 a2
set_option maxHeartbeats 4000000 in
theorem w_Mo_nextRoom {X : gX} (C : gC gctM prog_9_method_54_code kR7 4 1 23 (some .boolean) X) (σ : gM) (v1 : Int) : GG gctM X 0 [(0, .inr (.inr 0)), (1, .inl v1)] [] σ (F_Mo_nextRoom σ v1) := by
  unfold F_Mo_nextRoom
  refine g_iload_n C D_Mo_nextRoom_0 rfl 1 rfl ?_
  refine g_istore_n (L' := [(2, .inl v1), (0, .inr (.inr 0)), (1, .inl v1)]) C D_Mo_nextRoom_1 rfl (by decide) rfl ?_
  refine g_aload_n C D_Mo_nextRoom_2 rfl 1 rfl ?_
  refine g_iload_n C D_Mo_nextRoom_3 rfl 0 rfl ?_
  refine g_callVi (ci := 7) C [.inl v1] [] (Or.inl rfl) rfl (fun _ h1 h2 h3 => c_Mo_firstFrom h1 h2 h3) rfl rfl wc_7_272 (by decide) (Nat.le_of_ble_eq_true rfl) D_Mo_nextRoom_4 (fun s1 a2 => ?_)
  refine g_istore_n (L' := [(3, .inl a2), (2, .inl v1), (0, .inr (.inr 0)), (1, .inl v1)]) C D_Mo_nextRoom_7 rfl (by decide) rfl ?_
  refine g_sub [2, 1, 0] rfl ?_
  exact wl_Mo_nextRoom_8 C (fun s5 b3 b4 => by
      exact wj_Mo_nextRoom_45 C _ _ _) 200 _ _ _
theorem c_Mo_nextRoom {σ : gM} {v1 : Int} {r : gR} (ho : F_Mo_nextRoom σ v1 = some r) (hok : gOk [.inr (.inr 0), .inl v1]) (hin : gIn gctM σ) : gCt gctM Y_Mo_nextRoom prog_9_method_54_code 4 (some .boolean) 1 23 [.inr (.inr 0), .inl v1] σ r := g_entry (by decide) rfl (Nat.le_of_ble_eq_true rfl) ho hok hin (fun X C => w_Mo_nextRoom C σ v1)
theorem D_Mo_roomFor__0 : decode prog_9_method_55_code 0 = .ok (.iload_n 1, 1) := by decide +kernel
theorem D_Mo_roomFor__1 : decode prog_9_method_55_code 1 = .ok (.invokestatic 275, 3) := by decide +kernel
theorem D_Mo_roomFor__4 : decode prog_9_method_55_code 4 = .ok (.istore_n 2, 1) := by decide +kernel
theorem D_Mo_roomFor__5 : decode prog_9_method_55_code 5 = .ok (.bipush (-4), 2) := by decide +kernel
theorem D_Mo_roomFor__7 : decode prog_9_method_55_code 7 = .ok (.istore_n 3, 1) := by decide +kernel
theorem D_Mo_roomFor__8 : decode prog_9_method_55_code 8 = .ok (.iconst 0, 1) := by decide +kernel
theorem D_Mo_roomFor__9 : decode prog_9_method_55_code 9 = .ok (.istore 4, 2) := by decide +kernel
theorem D_Mo_roomFor__11 : decode prog_9_method_55_code 11 = .ok (.iconst 0, 1) := by decide +kernel
theorem D_Mo_roomFor__12 : decode prog_9_method_55_code 12 = .ok (.istore 5, 2) := by decide +kernel
theorem D_Mo_roomFor__14 : decode prog_9_method_55_code 14 = .ok (.iload 5, 2) := by decide +kernel
theorem D_Mo_roomFor__16 : decode prog_9_method_55_code 16 = .ok (.sipush 1024, 3) := by decide +kernel
theorem D_Mo_roomFor__19 : decode prog_9_method_55_code 19 = .ok (.if_icmp .ge 68, 3) := by decide +kernel
theorem D_Mo_roomFor__22 : decode prog_9_method_55_code 22 = .ok (.aload_n 0, 1) := by decide +kernel
theorem D_Mo_roomFor__23 : decode prog_9_method_55_code 23 = .ok (.iload 5, 2) := by decide +kernel
theorem D_Mo_roomFor__25 : decode prog_9_method_55_code 25 = .ok (.invokevirtual 284, 3) := by decide +kernel
theorem D_Mo_roomFor__28 : decode prog_9_method_55_code 28 = .ok (.ifCond .eq 59, 3) := by decide +kernel
theorem D_Mo_roomFor__31 : decode prog_9_method_55_code 31 = .ok (.aload_n 0, 1) := by decide +kernel
theorem D_Mo_roomFor__32 : decode prog_9_method_55_code 32 = .ok (.getfield 281, 3) := by decide +kernel
theorem D_Mo_roomFor__35 : decode prog_9_method_55_code 35 = .ok (.iload_n 2, 1) := by decide +kernel
theorem D_Mo_roomFor__36 : decode prog_9_method_55_code 36 = .ok (.if_icmp .lt 37, 3) := by decide +kernel
theorem D_Mo_roomFor__39 : decode prog_9_method_55_code 39 = .ok (.iload_n 3, 1) := by decide +kernel
theorem D_Mo_roomFor__40 : decode prog_9_method_55_code 40 = .ok (.bipush (-4), 2) := by decide +kernel
theorem D_Mo_roomFor__42 : decode prog_9_method_55_code 42 = .ok (.if_icmp .eq 20, 3) := by decide +kernel
theorem D_Mo_roomFor__45 : decode prog_9_method_55_code 45 = .ok (.aload_n 0, 1) := by decide +kernel
theorem D_Mo_roomFor__46 : decode prog_9_method_55_code 46 = .ok (.getfield 219, 3) := by decide +kernel
theorem D_Mo_roomFor__49 : decode prog_9_method_55_code 49 = .ok (.iconst 1, 1) := by decide +kernel
theorem D_Mo_roomFor__50 : decode prog_9_method_55_code 50 = .ok (.if_icmp .ne 23, 3) := by decide +kernel
theorem D_Mo_roomFor__53 : decode prog_9_method_55_code 53 = .ok (.aload_n 0, 1) := by decide +kernel
theorem D_Mo_roomFor__54 : decode prog_9_method_55_code 54 = .ok (.getfield 281, 3) := by decide +kernel
theorem D_Mo_roomFor__57 : decode prog_9_method_55_code 57 = .ok (.iload 4, 2) := by decide +kernel
theorem D_Mo_roomFor__59 : decode prog_9_method_55_code 59 = .ok (.if_icmp .ge 14, 3) := by decide +kernel
theorem D_Mo_roomFor__62 : decode prog_9_method_55_code 62 = .ok (.aload_n 0, 1) := by decide +kernel
theorem D_Mo_roomFor__63 : decode prog_9_method_55_code 63 = .ok (.getfield 278, 3) := by decide +kernel
theorem D_Mo_roomFor__66 : decode prog_9_method_55_code 66 = .ok (.istore_n 3, 1) := by decide +kernel
theorem D_Mo_roomFor__67 : decode prog_9_method_55_code 67 = .ok (.aload_n 0, 1) := by decide +kernel
theorem D_Mo_roomFor__68 : decode prog_9_method_55_code 68 = .ok (.getfield 281, 3) := by decide +kernel
theorem D_Mo_roomFor__71 : decode prog_9_method_55_code 71 = .ok (.istore 4, 2) := by decide +kernel
theorem D_Mo_roomFor__73 : decode prog_9_method_55_code 73 = .ok (.aload_n 0, 1) := by decide +kernel
theorem D_Mo_roomFor__74 : decode prog_9_method_55_code 74 = .ok (.getfield 278, 3) := by decide +kernel
theorem D_Mo_roomFor__77 : decode prog_9_method_55_code 77 = .ok (.aload_n 0, 1) := by decide +kernel
theorem D_Mo_roomFor__78 : decode prog_9_method_55_code 78 = .ok (.getfield 281, 3) := by decide +kernel
theorem D_Mo_roomFor__81 : decode prog_9_method_55_code 81 = .ok (.iadd, 1) := by decide +kernel
theorem D_Mo_roomFor__82 : decode prog_9_method_55_code 82 = .ok (.istore 5, 2) := by decide +kernel
theorem D_Mo_roomFor__84 : decode prog_9_method_55_code 84 = .ok (.goto (-70), 3) := by decide +kernel
theorem D_Mo_roomFor__87 : decode prog_9_method_55_code 87 = .ok (.iload_n 3, 1) := by decide +kernel
theorem D_Mo_roomFor__88 : decode prog_9_method_55_code 88 = .ok (.ireturn, 1) := by decide +kernel
def j_Mo_roomFor__73 (k1 : gM → Int → gO) (rec : gM → Int → Int → Int → gO) (σ : gM) (p2 v3 v4 : Int) : gO :=
  ga ((σ 0 44) + (σ 0 45)) fun a1 =>
  rec σ v3 v4 a1
set_option maxHeartbeats 4000000 in
theorem wj_Mo_roomFor__73 {X : gX} (C : gC gctM prog_9_method_55_code kR7 6 2 46 (some .int) X) {p2 : Int} {k1 : gM → Int → gO} (hk1 : ∀ (σ : gM) (a0 : Int), GG gctM X 87 [(3, .inl a0)] [] σ (k1 σ a0)) {rec : gM → Int → Int → Int → gO} (hrec : ∀ (σ : gM) (a0 a1 a2 : Int), GG gctM X 14 [(0, .inr (.inr 0)), (2, .inl p2), (3, .inl a0), (4, .inl a1), (5, .inl a2)] [] σ (rec σ a0 a1 a2)) (σ : gM) (v3 v4 : Int) : GG gctM X 73 [(0, .inr (.inr 0)), (2, .inl p2), (3, .inl v3), (4, .inl v4)] [] σ (j_Mo_roomFor__73 k1 rec σ p2 v3 v4) := by
  unfold j_Mo_roomFor__73
  refine g_aload_n C D_Mo_roomFor__73 rfl 0 rfl ?_
  refine g_get (ci := 7) C 44 (jz := 44) rfl rfl kI7 rfl (by decide) rfl rfl wf_7_278 rfl D_Mo_roomFor__74 ?_
  refine g_aload_n C D_Mo_roomFor__77 rfl 0 rfl ?_
  refine g_get (ci := 7) C 45 (jz := 45) rfl rfl kI7 rfl (by decide) rfl rfl wf_7_281 rfl D_Mo_roomFor__78 ?_
  refine g_iadd C D_Mo_roomFor__81 (fun a1 => ?_)
  refine g_istore (L' := [(5, .inl a1), (0, .inr (.inr 0)), (2, .inl p2), (3, .inl v3), (4, .inl v4)]) C D_Mo_roomFor__82 (by decide) rfl ?_
  refine g_goto (tgt := 14) C D_Mo_roomFor__84 (by decide) ?_
  refine g_sub [1, 2, 3, 4, 0] rfl ?_
  exact hrec _ _ _ _
def j_Mo_roomFor__62 (k1 : gM → Int → gO) (rec : gM → Int → Int → Int → gO) (σ : gM) (p2 : Int) : gO :=
  gv (σ 0 44) fun a1 =>
  gv (σ 0 45) fun a2 =>
  j_Mo_roomFor__73 k1 rec σ p2 a1 a2
set_option maxHeartbeats 4000000 in
theorem wj_Mo_roomFor__62 {X : gX} (C : gC gctM prog_9_method_55_code kR7 6 2 46 (some .int) X) {p2 : Int} {k1 : gM → Int → gO} (hk1 : ∀ (σ : gM) (a0 : Int), GG gctM X 87 [(3, .inl a0)] [] σ (k1 σ a0)) {rec : gM → Int → Int → Int → gO} (hrec : ∀ (σ : gM) (a0 a1 a2 : Int), GG gctM X 14 [(0, .inr (.inr 0)), (2, .inl p2), (3, .inl a0), (4, .inl a1), (5, .inl a2)] [] σ (rec σ a0 a1 a2)) (σ : gM) : GG gctM X 62 [(0, .inr (.inr 0)), (2, .inl p2)] [] σ (j_Mo_roomFor__62 k1 rec σ p2) := by
  unfold j_Mo_roomFor__62
  refine g_aload_n C D_Mo_roomFor__62 rfl 0 rfl ?_
  refine g_get (ci := 7) C 44 (jz := 44) rfl rfl kI7 rfl (by decide) rfl rfl wf_7_278 rfl D_Mo_roomFor__63 ?_
  refine g_let C (fun a1 => ?_)
  refine g_istore_n (L' := [(3, .inl a1), (0, .inr (.inr 0)), (2, .inl p2)]) C D_Mo_roomFor__66 rfl (by decide) rfl ?_
  refine g_aload_n C D_Mo_roomFor__67 rfl 1 rfl ?_
  refine g_get (ci := 7) C 45 (jz := 45) rfl rfl kI7 rfl (by decide) rfl rfl wf_7_281 rfl D_Mo_roomFor__68 ?_
  refine g_let C (fun a2 => ?_)
  refine g_istore (L' := [(4, .inl a2), (3, .inl a1), (0, .inr (.inr 0)), (2, .inl p2)]) C D_Mo_roomFor__71 (by decide) rfl ?_
  refine g_sub [2, 3, 1, 0] rfl ?_
  exact wj_Mo_roomFor__73 C hk1 hrec _ _ _
def l_Mo_roomFor__14 (k1 : gM → Int → gO) (p2 : Int) (rec : gM → Int → Int → Int → gO) (σ : gM) (v3 v4 v5 : Int) : gO :=
  if v5 < 1024 then
  (gk (F_Mo_nextRoom σ v5) fun s1 a2 =>
  if a2 = 0 then
  (k1 s1 v3)
  else
  (if (s1 0 45) < p2 then
  (j_Mo_roomFor__73 k1 rec s1 p2 v3 v4)
  else
  (if v3 = (-4) then
  (j_Mo_roomFor__62 k1 rec s1 p2)
  else
  (if (s1 0 31) = 1 then
  (if (s1 0 45) < v4 then
  (j_Mo_roomFor__62 k1 rec s1 p2)
  else
  (j_Mo_roomFor__73 k1 rec s1 p2 v3 v4))
  else
  (j_Mo_roomFor__73 k1 rec s1 p2 v3 v4)))))
  else
  (k1 σ v3)
set_option maxHeartbeats 4000000 in
theorem wl_Mo_roomFor__14 {X : gX} (C : gC gctM prog_9_method_55_code kR7 6 2 46 (some .int) X) {p2 : Int} {k1 : gM → Int → gO} (hk1 : ∀ (σ : gM) (a0 : Int), GG gctM X 87 [(3, .inl a0)] [] σ (k1 σ a0)) : ∀ (n : Nat) (σ : gM) (a0 a1 a2 : Int), GG gctM X 14 [(0, .inr (.inr 0)), (2, .inl p2), (3, .inl a0), (4, .inl a1), (5, .inl a2)] [] σ (gl3 (l_Mo_roomFor__14 k1 p2) n σ a0 a1 a2) := by
  refine gl3_run (P := fun σ a0 a1 a2 o => GG gctM X 14 [(0, .inr (.inr 0)), (2, .inl p2), (3, .inl a0), (4, .inl a1), (5, .inl a2)] [] σ o) (fun _ _ _ _ => g_none) (fun rec hrec σ v3 v4 v5 => ?_)
  unfold l_Mo_roomFor__14
  refine g_iload C D_Mo_roomFor__14 4 rfl ?_
  refine g_sipush C D_Mo_roomFor__16 (by decide) ⟨by decide, by decide⟩ ?_
  refine g_icmp_ge (tgt := 87) C D_Mo_roomFor__19 (by decide) ?_ ?_
  · refine g_sub [2] rfl ?_
    exact hk1 _ _
  · refine g_aload_n C D_Mo_roomFor__22 rfl 0 rfl ?_
    refine g_iload C D_Mo_roomFor__23 4 rfl ?_
    refine g_callVi (ci := 7) C [.inl v5] [] (Or.inr rfl) rfl (fun _ h1 h2 h3 => c_Mo_nextRoom h1 h2 h3) rfl rfl wc_7_284 (by decide) (Nat.le_of_ble_eq_true rfl) D_Mo_roomFor__25 (fun s1 a2 => ?_)
    refine g_if_eq (tgt := 87) C D_Mo_roomFor__28 (by decide) ?_ ?_
    · refine g_sub [2] rfl ?_
      exact hk1 _ _
    · refine g_aload_n C D_Mo_roomFor__31 rfl 0 rfl ?_
      refine g_get (ci := 7) C 45 (jz := 45) rfl rfl kI7 rfl (by decide) rfl rfl wf_7_281 rfl D_Mo_roomFor__32 ?_
      refine g_iload_n C D_Mo_roomFor__35 rfl 1 rfl ?_
      refine g_icmp_lt (tgt := 73) C D_Mo_roomFor__36 (by decide) ?_ ?_
      · refine g_sub [0, 1, 2, 3] rfl ?_
        exact wj_Mo_roomFor__73 C hk1 hrec _ _ _
      · refine g_iload_n C D_Mo_roomFor__39 rfl 2 rfl ?_
        refine g_bipush C D_Mo_roomFor__40 (by decide) ⟨by decide, by decide⟩ ?_
        refine g_icmp_eq (tgt := 62) C D_Mo_roomFor__42 (by decide) ?_ ?_
        · refine g_sub [0, 1] rfl ?_
          exact wj_Mo_roomFor__62 C hk1 hrec _
        · refine g_aload_n C D_Mo_roomFor__45 rfl 0 rfl ?_
          refine g_get (ci := 7) C 31 (jz := 31) rfl rfl kI7 rfl (by decide) rfl rfl wf_7_219 rfl D_Mo_roomFor__46 ?_
          refine g_iconst C D_Mo_roomFor__49 ⟨by decide, by decide⟩ ?_
          refine g_icmp_ne (tgt := 73) C D_Mo_roomFor__50 (by decide) ?_ ?_
          · refine g_sub [0, 1, 2, 3] rfl ?_
            exact wj_Mo_roomFor__73 C hk1 hrec _ _ _
          · refine g_aload_n C D_Mo_roomFor__53 rfl 0 rfl ?_
            refine g_get (ci := 7) C 45 (jz := 45) rfl rfl kI7 rfl (by decide) rfl rfl wf_7_281 rfl D_Mo_roomFor__54 ?_
            refine g_iload C D_Mo_roomFor__57 3 rfl ?_
            refine g_icmp_ge (tgt := 73) C D_Mo_roomFor__59 (by decide) ?_ ?_
            · refine g_sub [0, 1, 2, 3] rfl ?_
              exact wj_Mo_roomFor__73 C hk1 hrec _ _ _
            · refine g_sub [0, 1] rfl ?_
              exact wj_Mo_roomFor__62 C hk1 hrec _
def j_Mo_roomFor__87 (σ : gM) (v3 : Int) : gO :=
  some (σ, v3)
set_option maxHeartbeats 4000000 in
theorem wj_Mo_roomFor__87 {X : gX} (C : gC gctM prog_9_method_55_code kR7 6 2 46 (some .int) X) (σ : gM) (v3 : Int) : GG gctM X 87 [(3, .inl v3)] [] σ (j_Mo_roomFor__87 σ v3) := by
  unfold j_Mo_roomFor__87
  refine g_iload_n C D_Mo_roomFor__87 rfl 0 rfl ?_
  exact g_iret C D_Mo_roomFor__88
def F_Mo_roomFor_ (σ : gM) (v1 : Int) : gO :=
  gk (F_Mo_rounded σ v1) fun s1 a2 =>
  gl3 (l_Mo_roomFor__14 (fun s4 b3 => j_Mo_roomFor__87 s4 b3) a2) 200 s1 (-4) 0 0
set_option maxHeartbeats 4000000 in
theorem w_Mo_roomFor_ {X : gX} (C : gC gctM prog_9_method_55_code kR7 6 2 46 (some .int) X) (σ : gM) (v1 : Int) : GG gctM X 0 [(0, .inr (.inr 0)), (1, .inl v1)] [] σ (F_Mo_roomFor_ σ v1) := by
  unfold F_Mo_roomFor_
  refine g_iload_n C D_Mo_roomFor__0 rfl 1 rfl ?_
  refine g_callSi C [.inl v1] [] (Or.inl rfl) rfl (fun _ h1 h2 h3 => c_Mo_rounded h1 h2 h3) wc_7_275 (by decide) (Nat.le_of_ble_eq_true rfl) D_Mo_roomFor__1 (fun s1 a2 => ?_)
  refine g_istore_n (L' := [(2, .inl a2), (0, .inr (.inr 0)), (1, .inl v1)]) C D_Mo_roomFor__4 rfl (by decide) rfl ?_
  refine g_bipush C D_Mo_roomFor__5 (by decide) ⟨by decide, by decide⟩ ?_
  refine g_istore_n (L' := [(3, .inl (-4)), (2, .inl a2), (0, .inr (.inr 0)), (1, .inl v1)]) C D_Mo_roomFor__7 rfl (by decide) rfl ?_
  refine g_iconst C D_Mo_roomFor__8 ⟨by decide, by decide⟩ ?_
  refine g_istore (L' := [(4, .inl 0), (3, .inl (-4)), (2, .inl a2), (0, .inr (.inr 0)), (1, .inl v1)]) C D_Mo_roomFor__9 (by decide) rfl ?_
  refine g_iconst C D_Mo_roomFor__11 ⟨by decide, by decide⟩ ?_
  refine g_istore (L' := [(5, .inl 0), (4, .inl 0), (3, .inl (-4)), (2, .inl a2), (0, .inr (.inr 0)), (1, .inl v1)]) C D_Mo_roomFor__12 (by decide) rfl ?_
  refine g_sub [4, 3, 2, 1, 0] rfl ?_
  exact wl_Mo_roomFor__14 C (fun s4 b3 => by
      exact wj_Mo_roomFor__87 C _ _) 200 _ _ _ _
theorem c_Mo_roomFor_ {σ : gM} {v1 : Int} {r : gR} (ho : F_Mo_roomFor_ σ v1 = some r) (hok : gOk [.inr (.inr 0), .inl v1]) (hin : gIn gctM σ) : gCt gctM Y_Mo_roomFor_ prog_9_method_55_code 6 (some .int) 2 46 [.inr (.inr 0), .inl v1] σ r := g_entry (by decide) rfl (Nat.le_of_ble_eq_true rfl) ho hok hin (fun X C => w_Mo_roomFor_ C σ v1)
theorem D_Mo_freeNumber_0 : decode prog_9_method_56_code 0 = .ok (.iconst 0, 1) := by decide +kernel
theorem D_Mo_freeNumber_1 : decode prog_9_method_56_code 1 = .ok (.istore_n 1, 1) := by decide +kernel
theorem D_Mo_freeNumber_2 : decode prog_9_method_56_code 2 = .ok (.iload_n 1, 1) := by decide +kernel
theorem D_Mo_freeNumber_3 : decode prog_9_method_56_code 3 = .ok (.bipush 40, 2) := by decide +kernel
theorem D_Mo_freeNumber_5 : decode prog_9_method_56_code 5 = .ok (.if_icmp .ge 20, 3) := by decide +kernel
theorem D_Mo_freeNumber_8 : decode prog_9_method_56_code 8 = .ok (.aload_n 0, 1) := by decide +kernel
theorem D_Mo_freeNumber_9 : decode prog_9_method_56_code 9 = .ok (.getfield 84, 3) := by decide +kernel
theorem D_Mo_freeNumber_12 : decode prog_9_method_56_code 12 = .ok (.iload_n 1, 1) := by decide +kernel
theorem D_Mo_freeNumber_13 : decode prog_9_method_56_code 13 = .ok (.baload, 1) := by decide +kernel
theorem D_Mo_freeNumber_14 : decode prog_9_method_56_code 14 = .ok (.ifCond .ne 5, 3) := by decide +kernel
theorem D_Mo_freeNumber_17 : decode prog_9_method_56_code 17 = .ok (.iload_n 1, 1) := by decide +kernel
theorem D_Mo_freeNumber_18 : decode prog_9_method_56_code 18 = .ok (.ireturn, 1) := by decide +kernel
theorem D_Mo_freeNumber_19 : decode prog_9_method_56_code 19 = .ok (.iinc 1 1, 3) := by decide +kernel
theorem D_Mo_freeNumber_22 : decode prog_9_method_56_code 22 = .ok (.goto (-20), 3) := by decide +kernel
theorem D_Mo_freeNumber_25 : decode prog_9_method_56_code 25 = .ok (.bipush (-4), 2) := by decide +kernel
theorem D_Mo_freeNumber_27 : decode prog_9_method_56_code 27 = .ok (.ireturn, 1) := by decide +kernel
def l_Mo_freeNumber_2 (rec : gM → Int → gO) (σ : gM) (v1 : Int) : gO :=
  if v1 < 40 then
  (gi v1 40 <|
  if (σ 21 v1) = 0 then
  (some (σ, v1))
  else
  (ga (v1 + 1) fun a1 =>
  rec σ a1))
  else
  (some (σ, (-4)))
set_option maxHeartbeats 4000000 in
theorem wl_Mo_freeNumber_2 {X : gX} (C : gC gctM prog_9_method_56_code kR7 2 0 0 (some .int) X) : ∀ (n : Nat) (σ : gM) (a0 : Int), GG gctM X 2 [(0, .inr (.inr 0)), (1, .inl a0)] [] σ (gl1 (l_Mo_freeNumber_2) n σ a0) := by
  refine gl1_run (P := fun σ a0 o => GG gctM X 2 [(0, .inr (.inr 0)), (1, .inl a0)] [] σ o) (fun _ _ => g_none) (fun rec hrec σ v1 => ?_)
  unfold l_Mo_freeNumber_2
  refine g_iload_n C D_Mo_freeNumber_2 rfl 1 rfl ?_
  refine g_bipush C D_Mo_freeNumber_3 (by decide) ⟨by decide, by decide⟩ ?_
  refine g_icmp_ge (tgt := 25) C D_Mo_freeNumber_5 (by decide) ?_ ?_
  · refine g_bipush C D_Mo_freeNumber_25 (by decide) ⟨by decide, by decide⟩ ?_
    exact g_iret C D_Mo_freeNumber_27
  · refine g_aload_n C D_Mo_freeNumber_8 rfl 0 rfl ?_
    refine g_getr (ci := 7) C 32 rfl kI7 rfl (by decide) rfl rfl wf_7_84 D_Mo_freeNumber_9 ?_
    refine g_iload_n C D_Mo_freeNumber_12 rfl 1 rfl ?_
    refine g_zald C rfl rfl rfl D_Mo_freeNumber_13 ?_
    refine g_if_ne (tgt := 19) C D_Mo_freeNumber_14 (by decide) ?_ ?_
    · refine g_iinc (t := 1) (L' := fun z => [(1, .inl z), (0, .inr (.inr 0))]) C D_Mo_freeNumber_19 rfl (by decide) (fun _ => rfl) (fun a1 => ?_)
      refine g_goto (tgt := 2) C D_Mo_freeNumber_22 (by decide) ?_
      refine g_sub [1, 0] rfl ?_
      exact hrec _ _
    · refine g_iload_n C D_Mo_freeNumber_17 rfl 1 rfl ?_
      exact g_iret C D_Mo_freeNumber_18
def F_Mo_freeNumber (σ : gM) : gO :=
  gl1 (l_Mo_freeNumber_2) 200 σ 0
set_option maxHeartbeats 4000000 in
theorem w_Mo_freeNumber {X : gX} (C : gC gctM prog_9_method_56_code kR7 2 0 0 (some .int) X) (σ : gM) : GG gctM X 0 [(0, .inr (.inr 0))] [] σ (F_Mo_freeNumber σ) := by
  unfold F_Mo_freeNumber
  refine g_iconst C D_Mo_freeNumber_0 ⟨by decide, by decide⟩ ?_
  refine g_istore_n (L' := [(1, .inl 0), (0, .inr (.inr 0))]) C D_Mo_freeNumber_1 rfl (by decide) rfl ?_
  refine g_sub [1, 0] rfl ?_
  exact wl_Mo_freeNumber_2 C 200 _ _
theorem c_Mo_freeNumber {σ : gM} {r : gR} (ho : F_Mo_freeNumber σ = some r) (hok : gOk [.inr (.inr 0)]) (hin : gIn gctM σ) : gCt gctM Y_Mo_freeNumber prog_9_method_56_code 2 (some .int) 0 0 [.inr (.inr 0)] σ r := g_entry (by decide) rfl (Nat.le_of_ble_eq_true rfl) ho hok hin (fun X C => w_Mo_freeNumber C σ)
theorem D_Mo_putBehind_0 : decode prog_9_method_62_code 0 = .ok (.aload_n 0, 1) := by decide +kernel
theorem D_Mo_putBehind_1 : decode prog_9_method_62_code 1 = .ok (.getfield 121, 3) := by decide +kernel
theorem D_Mo_putBehind_4 : decode prog_9_method_62_code 4 = .ok (.iload_n 1, 1) := by decide +kernel
theorem D_Mo_putBehind_5 : decode prog_9_method_62_code 5 = .ok (.baload, 1) := by decide +kernel
theorem D_Mo_putBehind_6 : decode prog_9_method_62_code 6 = .ok (.ifCond .ne 30, 3) := by decide +kernel
theorem D_Mo_putBehind_9 : decode prog_9_method_62_code 9 = .ok (.aload_n 0, 1) := by decide +kernel
theorem D_Mo_putBehind_10 : decode prog_9_method_62_code 10 = .ok (.getfield 121, 3) := by decide +kernel
theorem D_Mo_putBehind_13 : decode prog_9_method_62_code 13 = .ok (.iload_n 1, 1) := by decide +kernel
theorem D_Mo_putBehind_14 : decode prog_9_method_62_code 14 = .ok (.iconst 1, 1) := by decide +kernel
theorem D_Mo_putBehind_15 : decode prog_9_method_62_code 15 = .ok (.bastore, 1) := by decide +kernel
theorem D_Mo_putBehind_16 : decode prog_9_method_62_code 16 = .ok (.aload_n 0, 1) := by decide +kernel
theorem D_Mo_putBehind_17 : decode prog_9_method_62_code 17 = .ok (.getfield 118, 3) := by decide +kernel
theorem D_Mo_putBehind_20 : decode prog_9_method_62_code 20 = .ok (.aload_n 0, 1) := by decide +kernel
theorem D_Mo_putBehind_21 : decode prog_9_method_62_code 21 = .ok (.getfield 299, 3) := by decide +kernel
theorem D_Mo_putBehind_24 : decode prog_9_method_62_code 24 = .ok (.iload_n 1, 1) := by decide +kernel
theorem D_Mo_putBehind_25 : decode prog_9_method_62_code 25 = .ok (.iastore, 1) := by decide +kernel
theorem D_Mo_putBehind_26 : decode prog_9_method_62_code 26 = .ok (.aload_n 0, 1) := by decide +kernel
theorem D_Mo_putBehind_27 : decode prog_9_method_62_code 27 = .ok (.dup, 1) := by decide +kernel
theorem D_Mo_putBehind_28 : decode prog_9_method_62_code 28 = .ok (.getfield 299, 3) := by decide +kernel
theorem D_Mo_putBehind_31 : decode prog_9_method_62_code 31 = .ok (.iconst 1, 1) := by decide +kernel
theorem D_Mo_putBehind_32 : decode prog_9_method_62_code 32 = .ok (.iadd, 1) := by decide +kernel
theorem D_Mo_putBehind_33 : decode prog_9_method_62_code 33 = .ok (.putfield 299, 3) := by decide +kernel
theorem D_Mo_putBehind_36 : decode prog_9_method_62_code 36 = .ok (.return_, 1) := by decide +kernel
def j_Mo_putBehind_36 (σ : gM) : gO :=
  some (σ, 0)
set_option maxHeartbeats 4000000 in
theorem wj_Mo_putBehind_36 {X : gX} (C : gC gctM prog_9_method_62_code kR7 2 0 0 (none) X) (σ : gM) : GG gctM X 36 [] [] σ (j_Mo_putBehind_36 σ) := by
  unfold j_Mo_putBehind_36
  exact g_vret C D_Mo_putBehind_36
def F_Mo_putBehind (σ : gM) (v1 : Int) : gO :=
  gi v1 40 <|
  if (σ 33 v1) = 0 then
  (gwb σ 33 40 v1 1 fun s1 =>
  gw s1 32 40 (s1 0 46) v1 fun s2 =>
  ga ((s2 0 46) + 1) fun a3 =>
  gp s2 0 46 a3 fun s4 =>
  j_Mo_putBehind_36 s4)
  else
  (j_Mo_putBehind_36 σ)
set_option maxHeartbeats 4000000 in
theorem w_Mo_putBehind {X : gX} (C : gC gctM prog_9_method_62_code kR7 2 0 0 (none) X) (σ : gM) (v1 : Int) : GG gctM X 0 [(0, .inr (.inr 0)), (1, .inl v1)] [] σ (F_Mo_putBehind σ v1) := by
  unfold F_Mo_putBehind
  refine g_aload_n C D_Mo_putBehind_0 rfl 0 rfl ?_
  refine g_getr (ci := 7) C 48 rfl kI7 rfl (by decide) rfl rfl wf_7_121 D_Mo_putBehind_1 ?_
  refine g_iload_n C D_Mo_putBehind_4 rfl 1 rfl ?_
  refine g_zald C rfl rfl rfl D_Mo_putBehind_5 ?_
  refine g_if_ne (tgt := 36) C D_Mo_putBehind_6 (by decide) ?_ ?_
  · refine g_sub [] rfl ?_
    exact wj_Mo_putBehind_36 C _
  · refine g_aload_n C D_Mo_putBehind_9 rfl 0 rfl ?_
    refine g_getr (ci := 7) C 48 rfl kI7 rfl (by decide) rfl rfl wf_7_121 D_Mo_putBehind_10 ?_
    refine g_iload_n C D_Mo_putBehind_13 rfl 1 rfl ?_
    refine g_iconst C D_Mo_putBehind_14 ⟨by decide, by decide⟩ ?_
    refine g_zast C rfl rfl D_Mo_putBehind_15 (fun s1 => ?_)
    refine g_aload_n C D_Mo_putBehind_16 rfl 0 rfl ?_
    refine g_getr (ci := 7) C 47 rfl kI7 rfl (by decide) rfl rfl wf_7_118 D_Mo_putBehind_17 ?_
    refine g_aload_n C D_Mo_putBehind_20 rfl 0 rfl ?_
    refine g_get (ci := 7) C 46 (jz := 46) rfl rfl kI7 rfl (by decide) rfl rfl wf_7_299 rfl D_Mo_putBehind_21 ?_
    refine g_iload_n C D_Mo_putBehind_24 rfl 1 rfl ?_
    refine g_iast C rfl rfl D_Mo_putBehind_25 (fun s2 => ?_)
    refine g_aload_n C D_Mo_putBehind_26 rfl 0 rfl ?_
    refine g_dup C D_Mo_putBehind_27 rfl ?_
    refine g_get (ci := 7) C 46 (jz := 46) rfl rfl kI7 rfl (by decide) rfl rfl wf_7_299 rfl D_Mo_putBehind_28 ?_
    refine g_iconst C D_Mo_putBehind_31 ⟨by decide, by decide⟩ ?_
    refine g_iadd C D_Mo_putBehind_32 (fun a3 => ?_)
    refine g_putI (ci := 7) C 46 (jz := 46) rfl rfl kI7 kO7 kN7 rfl (by decide) rfl rfl wf_7_299 D_Mo_putBehind_33 (fun s4 => ?_)
    refine g_sub [] rfl ?_
    exact wj_Mo_putBehind_36 C _
theorem c_Mo_putBehind {σ : gM} {v1 : Int} {r : gR} (ho : F_Mo_putBehind σ v1 = some r) (hok : gOk [.inr (.inr 0), .inl v1]) (hin : gIn gctM σ) : gCt gctM Y_Mo_putBehind prog_9_method_62_code 2 (none) 0 0 [.inr (.inr 0), .inl v1] σ r := g_entry (by decide) rfl (Nat.le_of_ble_eq_true rfl) ho hok hin (fun X C => w_Mo_putBehind C σ v1)
theorem D_Mo_isObject_0 : decode prog_9_method_58_code 0 = .ok (.iload_n 1, 1) := by decide +kernel
theorem D_Mo_isObject_1 : decode prog_9_method_58_code 1 = .ok (.iconst 0, 1) := by decide +kernel
theorem D_Mo_isObject_2 : decode prog_9_method_58_code 2 = .ok (.bipush 39, 2) := by decide +kernel
theorem D_Mo_isObject_4 : decode prog_9_method_58_code 4 = .ok (.invokestatic 147, 3) := by decide +kernel
theorem D_Mo_isObject_7 : decode prog_9_method_58_code 7 = .ok (.ifCond .eq 16, 3) := by decide +kernel
theorem D_Mo_isObject_10 : decode prog_9_method_58_code 10 = .ok (.aload_n 0, 1) := by decide +kernel
theorem D_Mo_isObject_11 : decode prog_9_method_58_code 11 = .ok (.getfield 84, 3) := by decide +kernel
theorem D_Mo_isObject_14 : decode prog_9_method_58_code 14 = .ok (.iload_n 1, 1) := by decide +kernel
theorem D_Mo_isObject_15 : decode prog_9_method_58_code 15 = .ok (.baload, 1) := by decide +kernel
theorem D_Mo_isObject_16 : decode prog_9_method_58_code 16 = .ok (.ifCond .eq 7, 3) := by decide +kernel
theorem D_Mo_isObject_19 : decode prog_9_method_58_code 19 = .ok (.iconst 1, 1) := by decide +kernel
theorem D_Mo_isObject_20 : decode prog_9_method_58_code 20 = .ok (.goto 4, 3) := by decide +kernel
theorem D_Mo_isObject_23 : decode prog_9_method_58_code 23 = .ok (.iconst 0, 1) := by decide +kernel
theorem D_Mo_isObject_24 : decode prog_9_method_58_code 24 = .ok (.ireturn, 1) := by decide +kernel
def j_Mo_isObject_24 (σ : gM) (t0 : Int) : gO :=
  gb t0 (some (σ, t0))
set_option maxHeartbeats 4000000 in
theorem wj_Mo_isObject_24 {X : gX} (C : gC gctM prog_9_method_58_code kR7 2 1 22 (some .boolean) X) (σ : gM) (t0 : Int) : GG gctM X 24 [] [.inl t0] σ (j_Mo_isObject_24 σ t0) := by
  unfold j_Mo_isObject_24
  exact g_zret C D_Mo_isObject_24
def j_Mo_isObject_23 (σ : gM) : gO :=
  j_Mo_isObject_24 σ 0
set_option maxHeartbeats 4000000 in
theorem wj_Mo_isObject_23 {X : gX} (C : gC gctM prog_9_method_58_code kR7 2 1 22 (some .boolean) X) (σ : gM) : GG gctM X 23 [] [] σ (j_Mo_isObject_23 σ) := by
  unfold j_Mo_isObject_23
  refine g_iconst C D_Mo_isObject_23 ⟨by decide, by decide⟩ ?_
  exact wj_Mo_isObject_24 C _ _
def F_Mo_isObject (σ : gM) (v1 : Int) : gO :=
  gk (F_Mo_in σ v1 0 39) fun s1 a2 =>
  if a2 = 0 then
  (j_Mo_isObject_23 s1)
  else
  (gi v1 40 <|
  if (s1 21 v1) = 0 then
  (j_Mo_isObject_23 s1)
  else
  (j_Mo_isObject_24 s1 1))
set_option maxHeartbeats 4000000 in
theorem w_Mo_isObject {X : gX} (C : gC gctM prog_9_method_58_code kR7 2 1 22 (some .boolean) X) (σ : gM) (v1 : Int) : GG gctM X 0 [(0, .inr (.inr 0)), (1, .inl v1)] [] σ (F_Mo_isObject σ v1) := by
  unfold F_Mo_isObject
  refine g_iload_n C D_Mo_isObject_0 rfl 1 rfl ?_
  refine g_iconst C D_Mo_isObject_1 ⟨by decide, by decide⟩ ?_
  refine g_bipush C D_Mo_isObject_2 (by decide) ⟨by decide, by decide⟩ ?_
  refine g_callSi C [.inl v1, .inl 0, .inl 39] [] (Or.inr rfl) rfl (fun _ h1 h2 h3 => c_Mo_in h1 h2 h3) wc_7_147 (by decide) (Nat.le_of_ble_eq_true rfl) D_Mo_isObject_4 (fun s1 a2 => ?_)
  refine g_if_eq (tgt := 23) C D_Mo_isObject_7 (by decide) ?_ ?_
  · refine g_sub [] rfl ?_
    exact wj_Mo_isObject_23 C _
  · refine g_aload_n C D_Mo_isObject_10 rfl 0 rfl ?_
    refine g_getr (ci := 7) C 32 rfl kI7 rfl (by decide) rfl rfl wf_7_84 D_Mo_isObject_11 ?_
    refine g_iload_n C D_Mo_isObject_14 rfl 1 rfl ?_
    refine g_zald C rfl rfl rfl D_Mo_isObject_15 ?_
    refine g_if_eq (tgt := 23) C D_Mo_isObject_16 (by decide) ?_ ?_
    · refine g_sub [] rfl ?_
      exact wj_Mo_isObject_23 C _
    · refine g_iconst C D_Mo_isObject_19 ⟨by decide, by decide⟩ ?_
      refine g_goto (tgt := 24) C D_Mo_isObject_20 (by decide) ?_
      refine g_sub [] rfl ?_
      exact wj_Mo_isObject_24 C _ _
theorem c_Mo_isObject {σ : gM} {v1 : Int} {r : gR} (ho : F_Mo_isObject σ v1 = some r) (hok : gOk [.inr (.inr 0), .inl v1]) (hin : gIn gctM σ) : gCt gctM Y_Mo_isObject prog_9_method_58_code 2 (some .boolean) 1 22 [.inr (.inr 0), .inl v1] σ r := g_entry (by decide) rfl (Nat.le_of_ble_eq_true rfl) ho hok hin (fun X C => w_Mo_isObject C σ v1)
theorem D_Mo_follow_0 : decode prog_9_method_63_code 0 = .ok (.iload_n 1, 1) := by decide +kernel
theorem D_Mo_follow_1 : decode prog_9_method_63_code 1 = .ok (.istore_n 2, 1) := by decide +kernel
theorem D_Mo_follow_2 : decode prog_9_method_63_code 2 = .ok (.iload_n 2, 1) := by decide +kernel
theorem D_Mo_follow_3 : decode prog_9_method_63_code 3 = .ok (.aload_n 0, 1) := by decide +kernel
theorem D_Mo_follow_4 : decode prog_9_method_63_code 4 = .ok (.getfield 299, 3) := by decide +kernel
theorem D_Mo_follow_7 : decode prog_9_method_63_code 7 = .ok (.if_icmp .ge 82, 3) := by decide +kernel
theorem D_Mo_follow_10 : decode prog_9_method_63_code 10 = .ok (.aload_n 0, 1) := by decide +kernel
theorem D_Mo_follow_11 : decode prog_9_method_63_code 11 = .ok (.getfield 118, 3) := by decide +kernel
theorem D_Mo_follow_14 : decode prog_9_method_63_code 14 = .ok (.iload_n 2, 1) := by decide +kernel
theorem D_Mo_follow_15 : decode prog_9_method_63_code 15 = .ok (.iaload, 1) := by decide +kernel
theorem D_Mo_follow_16 : decode prog_9_method_63_code 16 = .ok (.istore_n 3, 1) := by decide +kernel
theorem D_Mo_follow_17 : decode prog_9_method_63_code 17 = .ok (.iconst 0, 1) := by decide +kernel
theorem D_Mo_follow_18 : decode prog_9_method_63_code 18 = .ok (.istore 4, 2) := by decide +kernel
theorem D_Mo_follow_20 : decode prog_9_method_63_code 20 = .ok (.iload 4, 2) := by decide +kernel
theorem D_Mo_follow_22 : decode prog_9_method_63_code 22 = .ok (.aload_n 0, 1) := by decide +kernel
theorem D_Mo_follow_23 : decode prog_9_method_63_code 23 = .ok (.getfield 90, 3) := by decide +kernel
theorem D_Mo_follow_26 : decode prog_9_method_63_code 26 = .ok (.iload_n 3, 1) := by decide +kernel
theorem D_Mo_follow_27 : decode prog_9_method_63_code 27 = .ok (.iaload, 1) := by decide +kernel
theorem D_Mo_follow_28 : decode prog_9_method_63_code 28 = .ok (.if_icmp .ge 55, 3) := by decide +kernel
theorem D_Mo_follow_31 : decode prog_9_method_63_code 31 = .ok (.aload_n 0, 1) := by decide +kernel
theorem D_Mo_follow_32 : decode prog_9_method_63_code 32 = .ok (.iconst 0, 1) := by decide +kernel
theorem D_Mo_follow_33 : decode prog_9_method_63_code 33 = .ok (.aload_n 0, 1) := by decide +kernel
theorem D_Mo_follow_34 : decode prog_9_method_63_code 34 = .ok (.getfield 87, 3) := by decide +kernel
theorem D_Mo_follow_37 : decode prog_9_method_63_code 37 = .ok (.iload_n 3, 1) := by decide +kernel
theorem D_Mo_follow_38 : decode prog_9_method_63_code 38 = .ok (.iaload, 1) := by decide +kernel
theorem D_Mo_follow_39 : decode prog_9_method_63_code 39 = .ok (.iload 4, 2) := by decide +kernel
theorem D_Mo_follow_41 : decode prog_9_method_63_code 41 = .ok (.iadd, 1) := by decide +kernel
theorem D_Mo_follow_42 : decode prog_9_method_63_code 42 = .ok (.invokevirtual 259, 3) := by decide +kernel
theorem D_Mo_follow_45 : decode prog_9_method_63_code 45 = .ok (.istore 5, 2) := by decide +kernel
theorem D_Mo_follow_47 : decode prog_9_method_63_code 47 = .ok (.iload 5, 2) := by decide +kernel
theorem D_Mo_follow_49 : decode prog_9_method_63_code 49 = .ok (.bipush 127, 2) := by decide +kernel
theorem D_Mo_follow_51 : decode prog_9_method_63_code 51 = .ok (.if_icmp .le 26, 3) := by decide +kernel
theorem D_Mo_follow_54 : decode prog_9_method_63_code 54 = .ok (.aload_n 0, 1) := by decide +kernel
theorem D_Mo_follow_55 : decode prog_9_method_63_code 55 = .ok (.iload 5, 2) := by decide +kernel
theorem D_Mo_follow_57 : decode prog_9_method_63_code 57 = .ok (.sipush 128, 3) := by decide +kernel
theorem D_Mo_follow_60 : decode prog_9_method_63_code 60 = .ok (.isub, 1) := by decide +kernel
theorem D_Mo_follow_61 : decode prog_9_method_63_code 61 = .ok (.invokevirtual 296, 3) := by decide +kernel
theorem D_Mo_follow_64 : decode prog_9_method_63_code 64 = .ok (.ifCond .eq 13, 3) := by decide +kernel
theorem D_Mo_follow_67 : decode prog_9_method_63_code 67 = .ok (.aload_n 0, 1) := by decide +kernel
theorem D_Mo_follow_68 : decode prog_9_method_63_code 68 = .ok (.iload 5, 2) := by decide +kernel
theorem D_Mo_follow_70 : decode prog_9_method_63_code 70 = .ok (.sipush 128, 3) := by decide +kernel
theorem D_Mo_follow_73 : decode prog_9_method_63_code 73 = .ok (.isub, 1) := by decide +kernel
theorem D_Mo_follow_74 : decode prog_9_method_63_code 74 = .ok (.invokevirtual 302, 3) := by decide +kernel
theorem D_Mo_follow_77 : decode prog_9_method_63_code 77 = .ok (.iinc 4 1, 3) := by decide +kernel
theorem D_Mo_follow_80 : decode prog_9_method_63_code 80 = .ok (.goto (-60), 3) := by decide +kernel
theorem D_Mo_follow_83 : decode prog_9_method_63_code 83 = .ok (.iinc 2 1, 3) := by decide +kernel
theorem D_Mo_follow_86 : decode prog_9_method_63_code 86 = .ok (.goto (-84), 3) := by decide +kernel
theorem D_Mo_follow_89 : decode prog_9_method_63_code 89 = .ok (.return_, 1) := by decide +kernel
def j_Mo_follow_77 (k1 : gM → gO) (rec : gM → Int → gO) (σ : gM) (p2 p3 v4 : Int) : gO :=
  ga (v4 + 1) fun a1 =>
  rec σ a1
set_option maxHeartbeats 4000000 in
theorem wj_Mo_follow_77 {X : gX} (C : gC gctM prog_9_method_63_code kR7 6 9 213 (none) X) {p2 p3 : Int} {k1 : gM → gO} (hk1 : ∀ (σ : gM), GG gctM X 83 [(0, .inr (.inr 0)), (2, .inl p2)] [] σ (k1 σ)) {rec : gM → Int → gO} (hrec : ∀ (σ : gM) (a0 : Int), GG gctM X 20 [(0, .inr (.inr 0)), (2, .inl p2), (3, .inl p3), (4, .inl a0)] [] σ (rec σ a0)) (σ : gM) (v4 : Int) : GG gctM X 77 [(0, .inr (.inr 0)), (2, .inl p2), (3, .inl p3), (4, .inl v4)] [] σ (j_Mo_follow_77 k1 rec σ p2 p3 v4) := by
  unfold j_Mo_follow_77
  refine g_iinc (t := 3) (L' := fun z => [(4, .inl z), (0, .inr (.inr 0)), (2, .inl p2), (3, .inl p3)]) C D_Mo_follow_77 rfl (by decide) (fun _ => rfl) (fun a1 => ?_)
  refine g_goto (tgt := 20) C D_Mo_follow_80 (by decide) ?_
  refine g_sub [1, 2, 3, 0] rfl ?_
  exact hrec _ _
def l_Mo_follow_20 (k1 : gM → gO) (p2 p3 : Int) (rec : gM → Int → gO) (σ : gM) (v4 : Int) : gO :=
  gi p3 40 <|
  if v4 < (σ 23 p3) then
  (gi p3 40 <|
  ga ((σ 22 p3) + v4) fun a1 =>
  gk (F_Mo_loadByte σ 0 a1) fun s2 a3 =>
  if 127 < a3 then
  (ga (a3 - 128) fun a4 =>
  gk (F_Mo_isObject s2 a4) fun s5 a6 =>
  if a6 = 0 then
  (j_Mo_follow_77 k1 rec s5 p2 p3 v4)
  else
  (ga (a3 - 128) fun a7 =>
  gk (F_Mo_putBehind s5 a7) fun s8 _ =>
  j_Mo_follow_77 k1 rec s8 p2 p3 v4))
  else
  (j_Mo_follow_77 k1 rec s2 p2 p3 v4))
  else
  (k1 σ)
set_option maxHeartbeats 4000000 in
theorem wl_Mo_follow_20 {X : gX} (C : gC gctM prog_9_method_63_code kR7 6 9 213 (none) X) {p2 p3 : Int} {k1 : gM → gO} (hk1 : ∀ (σ : gM), GG gctM X 83 [(0, .inr (.inr 0)), (2, .inl p2)] [] σ (k1 σ)) : ∀ (n : Nat) (σ : gM) (a0 : Int), GG gctM X 20 [(0, .inr (.inr 0)), (2, .inl p2), (3, .inl p3), (4, .inl a0)] [] σ (gl1 (l_Mo_follow_20 k1 p2 p3) n σ a0) := by
  refine gl1_run (P := fun σ a0 o => GG gctM X 20 [(0, .inr (.inr 0)), (2, .inl p2), (3, .inl p3), (4, .inl a0)] [] σ o) (fun _ _ => g_none) (fun rec hrec σ v4 => ?_)
  unfold l_Mo_follow_20
  refine g_iload C D_Mo_follow_20 3 rfl ?_
  refine g_aload_n C D_Mo_follow_22 rfl 0 rfl ?_
  refine g_getr (ci := 7) C 34 rfl kI7 rfl (by decide) rfl rfl wf_7_90 D_Mo_follow_23 ?_
  refine g_iload_n C D_Mo_follow_26 rfl 2 rfl ?_
  refine g_iald C rfl rfl rfl D_Mo_follow_27 ?_
  refine g_icmp_ge (tgt := 83) C D_Mo_follow_28 (by decide) ?_ ?_
  · refine g_sub [0, 1] rfl ?_
    exact hk1 _
  · refine g_aload_n C D_Mo_follow_31 rfl 0 rfl ?_
    refine g_iconst C D_Mo_follow_32 ⟨by decide, by decide⟩ ?_
    refine g_aload_n C D_Mo_follow_33 rfl 0 rfl ?_
    refine g_getr (ci := 7) C 33 rfl kI7 rfl (by decide) rfl rfl wf_7_87 D_Mo_follow_34 ?_
    refine g_iload_n C D_Mo_follow_37 rfl 2 rfl ?_
    refine g_iald C rfl rfl rfl D_Mo_follow_38 ?_
    refine g_iload C D_Mo_follow_39 3 rfl ?_
    refine g_iadd C D_Mo_follow_41 (fun a1 => ?_)
    refine g_callVi (ci := 7) C [.inl 0, .inl a1] [] (Or.inl rfl) rfl (fun _ h1 h2 h3 => c_Mo_loadByte h1 h2 h3) rfl rfl wc_7_259 (by decide) (Nat.le_of_ble_eq_true rfl) D_Mo_follow_42 (fun s2 a3 => ?_)
    refine g_istore (L' := [(5, .inl a3), (0, .inr (.inr 0)), (2, .inl p2), (3, .inl p3), (4, .inl v4)]) C D_Mo_follow_45 (by decide) rfl ?_
    refine g_iload C D_Mo_follow_47 0 rfl ?_
    refine g_bipush C D_Mo_follow_49 (by decide) ⟨by decide, by decide⟩ ?_
    refine g_icmp_le (tgt := 77) C D_Mo_follow_51 (by decide) ?_ ?_
    · refine g_sub [1, 2, 3, 4] rfl ?_
      exact wj_Mo_follow_77 C hk1 hrec _ _
    · refine g_aload_n C D_Mo_follow_54 rfl 1 rfl ?_
      refine g_iload C D_Mo_follow_55 0 rfl ?_
      refine g_sipush C D_Mo_follow_57 (by decide) ⟨by decide, by decide⟩ ?_
      refine g_isub C D_Mo_follow_60 (fun a4 => ?_)
      refine g_callVi (ci := 7) C [.inl a4] [] (Or.inr rfl) rfl (fun _ h1 h2 h3 => c_Mo_isObject h1 h2 h3) rfl rfl wc_7_296 (by decide) (Nat.le_of_ble_eq_true rfl) D_Mo_follow_61 (fun s5 a6 => ?_)
      refine g_if_eq (tgt := 77) C D_Mo_follow_64 (by decide) ?_ ?_
      · refine g_sub [1, 2, 3, 4] rfl ?_
        exact wj_Mo_follow_77 C hk1 hrec _ _
      · refine g_aload_n C D_Mo_follow_67 rfl 1 rfl ?_
        refine g_iload C D_Mo_follow_68 0 rfl ?_
        refine g_sipush C D_Mo_follow_70 (by decide) ⟨by decide, by decide⟩ ?_
        refine g_isub C D_Mo_follow_73 (fun a7 => ?_)
        refine g_callVv (ci := 7) C [.inl a7] [] rfl rfl (fun _ h1 h2 h3 => c_Mo_putBehind h1 h2 h3) rfl rfl wc_7_302 (by decide) (Nat.le_of_ble_eq_true rfl) D_Mo_follow_74 (fun s8 _ => ?_)
        refine g_sub [1, 2, 3, 4] rfl ?_
        exact wj_Mo_follow_77 C hk1 hrec _ _
def l_Mo_follow_2 (rec : gM → Int → gO) (σ : gM) (v2 : Int) : gO :=
  if v2 < (σ 0 46) then
  (gi v2 40 <|
  gv (σ 32 v2) fun a1 =>
  gl1 (l_Mo_follow_20 (fun s2 => ga (v2 + 1) fun a3 =>
  rec s2 a3) v2 a1) 200 σ 0)
  else
  (some (σ, 0))
set_option maxHeartbeats 4000000 in
theorem wl_Mo_follow_2 {X : gX} (C : gC gctM prog_9_method_63_code kR7 6 9 213 (none) X) : ∀ (n : Nat) (σ : gM) (a0 : Int), GG gctM X 2 [(0, .inr (.inr 0)), (2, .inl a0)] [] σ (gl1 (l_Mo_follow_2) n σ a0) := by
  refine gl1_run (P := fun σ a0 o => GG gctM X 2 [(0, .inr (.inr 0)), (2, .inl a0)] [] σ o) (fun _ _ => g_none) (fun rec hrec σ v2 => ?_)
  unfold l_Mo_follow_2
  refine g_iload_n C D_Mo_follow_2 rfl 1 rfl ?_
  refine g_aload_n C D_Mo_follow_3 rfl 0 rfl ?_
  refine g_get (ci := 7) C 46 (jz := 46) rfl rfl kI7 rfl (by decide) rfl rfl wf_7_299 rfl D_Mo_follow_4 ?_
  refine g_icmp_ge (tgt := 89) C D_Mo_follow_7 (by decide) ?_ ?_
  · exact g_vret C D_Mo_follow_89
  · refine g_aload_n C D_Mo_follow_10 rfl 0 rfl ?_
    refine g_getr (ci := 7) C 47 rfl kI7 rfl (by decide) rfl rfl wf_7_118 D_Mo_follow_11 ?_
    refine g_iload_n C D_Mo_follow_14 rfl 1 rfl ?_
    refine g_iald C rfl rfl rfl D_Mo_follow_15 ?_
    refine g_let C (fun a1 => ?_)
    refine g_istore_n (L' := [(3, .inl a1), (0, .inr (.inr 0)), (2, .inl v2)]) C D_Mo_follow_16 rfl (by decide) rfl ?_
    refine g_iconst C D_Mo_follow_17 ⟨by decide, by decide⟩ ?_
    refine g_istore (L' := [(4, .inl 0), (3, .inl a1), (0, .inr (.inr 0)), (2, .inl v2)]) C D_Mo_follow_18 (by decide) rfl ?_
    refine g_sub [2, 3, 1, 0] rfl ?_
    exact wl_Mo_follow_20 C (fun s2 => by
        refine g_iinc (t := 1) (L' := fun z => [(2, .inl z), (0, .inr (.inr 0))]) C D_Mo_follow_83 rfl (by decide) (fun _ => rfl) (fun a3 => ?_)
        refine g_goto (tgt := 2) C D_Mo_follow_86 (by decide) ?_
        refine g_sub [1, 0] rfl ?_
        exact hrec _ _) 200 _ _
def F_Mo_follow (σ : gM) (v1 : Int) : gO :=
  gl1 (l_Mo_follow_2) 200 σ v1
set_option maxHeartbeats 4000000 in
theorem w_Mo_follow {X : gX} (C : gC gctM prog_9_method_63_code kR7 6 9 213 (none) X) (σ : gM) (v1 : Int) : GG gctM X 0 [(0, .inr (.inr 0)), (1, .inl v1)] [] σ (F_Mo_follow σ v1) := by
  unfold F_Mo_follow
  refine g_iload_n C D_Mo_follow_0 rfl 1 rfl ?_
  refine g_istore_n (L' := [(2, .inl v1), (0, .inr (.inr 0)), (1, .inl v1)]) C D_Mo_follow_1 rfl (by decide) rfl ?_
  refine g_sub [1, 0] rfl ?_
  exact wl_Mo_follow_2 C 200 _ _
theorem c_Mo_follow {σ : gM} {v1 : Int} {r : gR} (ho : F_Mo_follow σ v1 = some r) (hok : gOk [.inr (.inr 0), .inl v1]) (hin : gIn gctM σ) : gCt gctM Y_Mo_follow prog_9_method_63_code 6 (none) 9 213 [.inr (.inr 0), .inl v1] σ r := g_entry (by decide) rfl (Nat.le_of_ble_eq_true rfl) ho hok hin (fun X C => w_Mo_follow C σ v1)
theorem D_Mo_bury_0 : decode prog_9_method_64_code 0 = .ok (.iconst 0, 1) := by decide +kernel
theorem D_Mo_bury_1 : decode prog_9_method_64_code 1 = .ok (.istore_n 1, 1) := by decide +kernel
theorem D_Mo_bury_2 : decode prog_9_method_64_code 2 = .ok (.iconst 0, 1) := by decide +kernel
theorem D_Mo_bury_3 : decode prog_9_method_64_code 3 = .ok (.istore_n 2, 1) := by decide +kernel
theorem D_Mo_bury_4 : decode prog_9_method_64_code 4 = .ok (.iload_n 2, 1) := by decide +kernel
theorem D_Mo_bury_5 : decode prog_9_method_64_code 5 = .ok (.bipush 40, 2) := by decide +kernel
theorem D_Mo_bury_7 : decode prog_9_method_64_code 7 = .ok (.if_icmp .ge 76, 3) := by decide +kernel
theorem D_Mo_bury_10 : decode prog_9_method_64_code 10 = .ok (.aload_n 0, 1) := by decide +kernel
theorem D_Mo_bury_11 : decode prog_9_method_64_code 11 = .ok (.getfield 84, 3) := by decide +kernel
theorem D_Mo_bury_14 : decode prog_9_method_64_code 14 = .ok (.iload_n 2, 1) := by decide +kernel
theorem D_Mo_bury_15 : decode prog_9_method_64_code 15 = .ok (.baload, 1) := by decide +kernel
theorem D_Mo_bury_16 : decode prog_9_method_64_code 16 = .ok (.ifCond .eq 61, 3) := by decide +kernel
theorem D_Mo_bury_19 : decode prog_9_method_64_code 19 = .ok (.aload_n 0, 1) := by decide +kernel
theorem D_Mo_bury_20 : decode prog_9_method_64_code 20 = .ok (.getfield 121, 3) := by decide +kernel
theorem D_Mo_bury_23 : decode prog_9_method_64_code 23 = .ok (.iload_n 2, 1) := by decide +kernel
theorem D_Mo_bury_24 : decode prog_9_method_64_code 24 = .ok (.baload, 1) := by decide +kernel
theorem D_Mo_bury_25 : decode prog_9_method_64_code 25 = .ok (.ifCond .ne 52, 3) := by decide +kernel
theorem D_Mo_bury_28 : decode prog_9_method_64_code 28 = .ok (.aload_n 0, 1) := by decide +kernel
theorem D_Mo_bury_29 : decode prog_9_method_64_code 29 = .ok (.getfield 84, 3) := by decide +kernel
theorem D_Mo_bury_32 : decode prog_9_method_64_code 32 = .ok (.iload_n 2, 1) := by decide +kernel
theorem D_Mo_bury_33 : decode prog_9_method_64_code 33 = .ok (.iconst 0, 1) := by decide +kernel
theorem D_Mo_bury_34 : decode prog_9_method_64_code 34 = .ok (.bastore, 1) := by decide +kernel
theorem D_Mo_bury_35 : decode prog_9_method_64_code 35 = .ok (.iinc 1 1, 3) := by decide +kernel
theorem D_Mo_bury_38 : decode prog_9_method_64_code 38 = .ok (.iconst 0, 1) := by decide +kernel
theorem D_Mo_bury_39 : decode prog_9_method_64_code 39 = .ok (.istore_n 3, 1) := by decide +kernel
theorem D_Mo_bury_40 : decode prog_9_method_64_code 40 = .ok (.iload_n 3, 1) := by decide +kernel
theorem D_Mo_bury_41 : decode prog_9_method_64_code 41 = .ok (.iconst 4, 1) := by decide +kernel
theorem D_Mo_bury_42 : decode prog_9_method_64_code 42 = .ok (.if_icmp .ge 35, 3) := by decide +kernel
theorem D_Mo_bury_45 : decode prog_9_method_64_code 45 = .ok (.aload_n 0, 1) := by decide +kernel
theorem D_Mo_bury_46 : decode prog_9_method_64_code 46 = .ok (.getfield 106, 3) := by decide +kernel
theorem D_Mo_bury_49 : decode prog_9_method_64_code 49 = .ok (.iload_n 3, 1) := by decide +kernel
theorem D_Mo_bury_50 : decode prog_9_method_64_code 50 = .ok (.aload_n 0, 1) := by decide +kernel
theorem D_Mo_bury_51 : decode prog_9_method_64_code 51 = .ok (.getfield 106, 3) := by decide +kernel
theorem D_Mo_bury_54 : decode prog_9_method_64_code 54 = .ok (.iload_n 3, 1) := by decide +kernel
theorem D_Mo_bury_55 : decode prog_9_method_64_code 55 = .ok (.iaload, 1) := by decide +kernel
theorem D_Mo_bury_56 : decode prog_9_method_64_code 56 = .ok (.iload_n 2, 1) := by decide +kernel
theorem D_Mo_bury_57 : decode prog_9_method_64_code 57 = .ok (.if_icmp .ne 7, 3) := by decide +kernel
theorem D_Mo_bury_60 : decode prog_9_method_64_code 60 = .ok (.iconst (-1), 1) := by decide +kernel
theorem D_Mo_bury_61 : decode prog_9_method_64_code 61 = .ok (.goto 9, 3) := by decide +kernel
theorem D_Mo_bury_64 : decode prog_9_method_64_code 64 = .ok (.aload_n 0, 1) := by decide +kernel
theorem D_Mo_bury_65 : decode prog_9_method_64_code 65 = .ok (.getfield 106, 3) := by decide +kernel
theorem D_Mo_bury_68 : decode prog_9_method_64_code 68 = .ok (.iload_n 3, 1) := by decide +kernel
theorem D_Mo_bury_69 : decode prog_9_method_64_code 69 = .ok (.iaload, 1) := by decide +kernel
theorem D_Mo_bury_70 : decode prog_9_method_64_code 70 = .ok (.iastore, 1) := by decide +kernel
theorem D_Mo_bury_71 : decode prog_9_method_64_code 71 = .ok (.iinc 3 1, 3) := by decide +kernel
theorem D_Mo_bury_74 : decode prog_9_method_64_code 74 = .ok (.goto (-34), 3) := by decide +kernel
theorem D_Mo_bury_77 : decode prog_9_method_64_code 77 = .ok (.iinc 2 1, 3) := by decide +kernel
theorem D_Mo_bury_80 : decode prog_9_method_64_code 80 = .ok (.goto (-76), 3) := by decide +kernel
theorem D_Mo_bury_83 : decode prog_9_method_64_code 83 = .ok (.aload_n 0, 1) := by decide +kernel
theorem D_Mo_bury_84 : decode prog_9_method_64_code 84 = .ok (.getfield 112, 3) := by decide +kernel
theorem D_Mo_bury_87 : decode prog_9_method_64_code 87 = .ok (.bipush 12, 2) := by decide +kernel
theorem D_Mo_bury_89 : decode prog_9_method_64_code 89 = .ok (.dup2, 1) := by decide +kernel
theorem D_Mo_bury_90 : decode prog_9_method_64_code 90 = .ok (.iaload, 1) := by decide +kernel
theorem D_Mo_bury_91 : decode prog_9_method_64_code 91 = .ok (.iload_n 1, 1) := by decide +kernel
theorem D_Mo_bury_92 : decode prog_9_method_64_code 92 = .ok (.iadd, 1) := by decide +kernel
theorem D_Mo_bury_93 : decode prog_9_method_64_code 93 = .ok (.iastore, 1) := by decide +kernel
theorem D_Mo_bury_94 : decode prog_9_method_64_code 94 = .ok (.iload_n 1, 1) := by decide +kernel
theorem D_Mo_bury_95 : decode prog_9_method_64_code 95 = .ok (.ireturn, 1) := by decide +kernel
def j_Mo_bury_77 (k1 : gM → Int → gO) (rec : gM → Int → Int → gO) (σ : gM) (v1 v2 : Int) : gO :=
  ga (v2 + 1) fun a1 =>
  rec σ v1 a1
set_option maxHeartbeats 4000000 in
theorem wj_Mo_bury_77 {X : gX} (C : gC gctM prog_9_method_64_code kR7 4 0 0 (some .int) X) {k1 : gM → Int → gO} (hk1 : ∀ (σ : gM) (a0 : Int), GG gctM X 83 [(0, .inr (.inr 0)), (1, .inl a0)] [] σ (k1 σ a0)) {rec : gM → Int → Int → gO} (hrec : ∀ (σ : gM) (a0 a1 : Int), GG gctM X 4 [(0, .inr (.inr 0)), (1, .inl a0), (2, .inl a1)] [] σ (rec σ a0 a1)) (σ : gM) (v1 v2 : Int) : GG gctM X 77 [(0, .inr (.inr 0)), (1, .inl v1), (2, .inl v2)] [] σ (j_Mo_bury_77 k1 rec σ v1 v2) := by
  unfold j_Mo_bury_77
  refine g_iinc (t := 2) (L' := fun z => [(2, .inl z), (0, .inr (.inr 0)), (1, .inl v1)]) C D_Mo_bury_77 rfl (by decide) (fun _ => rfl) (fun a1 => ?_)
  refine g_goto (tgt := 4) C D_Mo_bury_80 (by decide) ?_
  refine g_sub [1, 2, 0] rfl ?_
  exact hrec _ _ _
def j_Mo_bury_70_28 (k1 : gM → gO) (rec : gM → Int → gO) (σ : gM) (p1 p2 v3 t0 t1 : Int) : gO :=
  gw σ 28 4 t1 t0 fun s1 =>
  ga (v3 + 1) fun a2 =>
  rec s1 a2
set_option maxHeartbeats 4000000 in
theorem wj_Mo_bury_70_28 {X : gX} (C : gC gctM prog_9_method_64_code kR7 4 0 0 (some .int) X) {p1 p2 : Int} {k1 : gM → gO} (hk1 : ∀ (σ : gM), GG gctM X 77 [(0, .inr (.inr 0)), (1, .inl p1), (2, .inl p2)] [] σ (k1 σ)) {rec : gM → Int → gO} (hrec : ∀ (σ : gM) (a0 : Int), GG gctM X 40 [(0, .inr (.inr 0)), (1, .inl p1), (2, .inl p2), (3, .inl a0)] [] σ (rec σ a0)) (σ : gM) (v3 t0 t1 : Int) : GG gctM X 70 [(0, .inr (.inr 0)), (1, .inl p1), (2, .inl p2), (3, .inl v3)] [.inl t0, .inl t1, .inr (.inr 28)] σ (j_Mo_bury_70_28 k1 rec σ p1 p2 v3 t0 t1) := by
  unfold j_Mo_bury_70_28
  refine g_iast C rfl rfl D_Mo_bury_70 (fun s1 => ?_)
  refine g_iinc (t := 3) (L' := fun z => [(3, .inl z), (0, .inr (.inr 0)), (1, .inl p1), (2, .inl p2)]) C D_Mo_bury_71 rfl (by decide) (fun _ => rfl) (fun a2 => ?_)
  refine g_goto (tgt := 40) C D_Mo_bury_74 (by decide) ?_
  refine g_sub [1, 2, 3, 0] rfl ?_
  exact hrec _ _
def l_Mo_bury_40 (k1 : gM → gO) (p1 p2 : Int) (rec : gM → Int → gO) (σ : gM) (v3 : Int) : gO :=
  if v3 < 4 then
  (gi v3 4 <|
  if (σ 28 v3) = p2 then
  (j_Mo_bury_70_28 k1 rec σ p1 p2 v3 (-1) v3)
  else
  (gi v3 4 <|
  j_Mo_bury_70_28 k1 rec σ p1 p2 v3 (σ 28 v3) v3))
  else
  (k1 σ)
set_option maxHeartbeats 4000000 in
theorem wl_Mo_bury_40 {X : gX} (C : gC gctM prog_9_method_64_code kR7 4 0 0 (some .int) X) {p1 p2 : Int} {k1 : gM → gO} (hk1 : ∀ (σ : gM), GG gctM X 77 [(0, .inr (.inr 0)), (1, .inl p1), (2, .inl p2)] [] σ (k1 σ)) : ∀ (n : Nat) (σ : gM) (a0 : Int), GG gctM X 40 [(0, .inr (.inr 0)), (1, .inl p1), (2, .inl p2), (3, .inl a0)] [] σ (gl1 (l_Mo_bury_40 k1 p1 p2) n σ a0) := by
  refine gl1_run (P := fun σ a0 o => GG gctM X 40 [(0, .inr (.inr 0)), (1, .inl p1), (2, .inl p2), (3, .inl a0)] [] σ o) (fun _ _ => g_none) (fun rec hrec σ v3 => ?_)
  unfold l_Mo_bury_40
  refine g_iload_n C D_Mo_bury_40 rfl 3 rfl ?_
  refine g_iconst C D_Mo_bury_41 ⟨by decide, by decide⟩ ?_
  refine g_icmp_ge (tgt := 77) C D_Mo_bury_42 (by decide) ?_ ?_
  · refine g_sub [0, 1, 2] rfl ?_
    exact hk1 _
  · refine g_aload_n C D_Mo_bury_45 rfl 0 rfl ?_
    refine g_getr (ci := 7) C 39 rfl kI7 rfl (by decide) rfl rfl wf_7_106 D_Mo_bury_46 ?_
    refine g_iload_n C D_Mo_bury_49 rfl 3 rfl ?_
    refine g_aload_n C D_Mo_bury_50 rfl 0 rfl ?_
    refine g_getr (ci := 7) C 39 rfl kI7 rfl (by decide) rfl rfl wf_7_106 D_Mo_bury_51 ?_
    refine g_iload_n C D_Mo_bury_54 rfl 3 rfl ?_
    refine g_iald C rfl rfl rfl D_Mo_bury_55 ?_
    refine g_iload_n C D_Mo_bury_56 rfl 2 rfl ?_
    refine g_icmp_ne (tgt := 64) C D_Mo_bury_57 (by decide) ?_ ?_
    · refine g_aload_n C D_Mo_bury_64 rfl 0 rfl ?_
      refine g_getr (ci := 7) C 39 rfl kI7 rfl (by decide) rfl rfl wf_7_106 D_Mo_bury_65 ?_
      refine g_iload_n C D_Mo_bury_68 rfl 3 rfl ?_
      refine g_iald C rfl rfl rfl D_Mo_bury_69 ?_
      exact wj_Mo_bury_70_28 C hk1 hrec _ _ _ _
    · refine g_iconst C D_Mo_bury_60 ⟨by decide, by decide⟩ ?_
      refine g_goto (tgt := 70) C D_Mo_bury_61 (by decide) ?_
      exact wj_Mo_bury_70_28 C hk1 hrec _ _ _ _
def l_Mo_bury_4 (k1 : gM → Int → gO) (rec : gM → Int → Int → gO) (σ : gM) (v1 v2 : Int) : gO :=
  if v2 < 40 then
  (gi v2 40 <|
  if (σ 21 v2) = 0 then
  (j_Mo_bury_77 k1 rec σ v1 v2)
  else
  (gi v2 40 <|
  if (σ 33 v2) = 0 then
  (gwb σ 21 40 v2 0 fun s1 =>
  ga (v1 + 1) fun a2 =>
  gl1 (l_Mo_bury_40 (fun s3 => j_Mo_bury_77 k1 rec s3 a2 v2) a2 v2) 200 s1 0)
  else
  (j_Mo_bury_77 k1 rec σ v1 v2)))
  else
  (k1 σ v1)
set_option maxHeartbeats 4000000 in
theorem wl_Mo_bury_4 {X : gX} (C : gC gctM prog_9_method_64_code kR7 4 0 0 (some .int) X) {k1 : gM → Int → gO} (hk1 : ∀ (σ : gM) (a0 : Int), GG gctM X 83 [(0, .inr (.inr 0)), (1, .inl a0)] [] σ (k1 σ a0)) : ∀ (n : Nat) (σ : gM) (a0 a1 : Int), GG gctM X 4 [(0, .inr (.inr 0)), (1, .inl a0), (2, .inl a1)] [] σ (gl2 (l_Mo_bury_4 k1) n σ a0 a1) := by
  refine gl2_run (P := fun σ a0 a1 o => GG gctM X 4 [(0, .inr (.inr 0)), (1, .inl a0), (2, .inl a1)] [] σ o) (fun _ _ _ => g_none) (fun rec hrec σ v1 v2 => ?_)
  unfold l_Mo_bury_4
  refine g_iload_n C D_Mo_bury_4 rfl 2 rfl ?_
  refine g_bipush C D_Mo_bury_5 (by decide) ⟨by decide, by decide⟩ ?_
  refine g_icmp_ge (tgt := 83) C D_Mo_bury_7 (by decide) ?_ ?_
  · refine g_sub [0, 1] rfl ?_
    exact hk1 _ _
  · refine g_aload_n C D_Mo_bury_10 rfl 0 rfl ?_
    refine g_getr (ci := 7) C 32 rfl kI7 rfl (by decide) rfl rfl wf_7_84 D_Mo_bury_11 ?_
    refine g_iload_n C D_Mo_bury_14 rfl 2 rfl ?_
    refine g_zald C rfl rfl rfl D_Mo_bury_15 ?_
    refine g_if_eq (tgt := 77) C D_Mo_bury_16 (by decide) ?_ ?_
    · exact wj_Mo_bury_77 C hk1 hrec _ _ _
    · refine g_aload_n C D_Mo_bury_19 rfl 0 rfl ?_
      refine g_getr (ci := 7) C 48 rfl kI7 rfl (by decide) rfl rfl wf_7_121 D_Mo_bury_20 ?_
      refine g_iload_n C D_Mo_bury_23 rfl 2 rfl ?_
      refine g_zald C rfl rfl rfl D_Mo_bury_24 ?_
      refine g_if_ne (tgt := 77) C D_Mo_bury_25 (by decide) ?_ ?_
      · exact wj_Mo_bury_77 C hk1 hrec _ _ _
      · refine g_aload_n C D_Mo_bury_28 rfl 0 rfl ?_
        refine g_getr (ci := 7) C 32 rfl kI7 rfl (by decide) rfl rfl wf_7_84 D_Mo_bury_29 ?_
        refine g_iload_n C D_Mo_bury_32 rfl 2 rfl ?_
        refine g_iconst C D_Mo_bury_33 ⟨by decide, by decide⟩ ?_
        refine g_zast C rfl rfl D_Mo_bury_34 (fun s1 => ?_)
        refine g_iinc (t := 1) (L' := fun z => [(1, .inl z), (0, .inr (.inr 0)), (2, .inl v2)]) C D_Mo_bury_35 rfl (by decide) (fun _ => rfl) (fun a2 => ?_)
        refine g_iconst C D_Mo_bury_38 ⟨by decide, by decide⟩ ?_
        refine g_istore_n (L' := [(3, .inl 0), (1, .inl a2), (0, .inr (.inr 0)), (2, .inl v2)]) C D_Mo_bury_39 rfl (by decide) rfl ?_
        refine g_sub [2, 1, 3, 0] rfl ?_
        exact wl_Mo_bury_40 C (fun s3 => by
            exact wj_Mo_bury_77 C hk1 hrec _ _ _) 200 _ _
def F_Mo_bury (σ : gM) : gO :=
  gl2 (l_Mo_bury_4 (fun s2 b1 => gi 12 16 <|
  ga ((s2 30 12) + b1) fun a3 =>
  gw s2 30 16 12 a3 fun s4 =>
  some (s4, b1))) 200 σ 0 0
set_option maxHeartbeats 4000000 in
theorem w_Mo_bury {X : gX} (C : gC gctM prog_9_method_64_code kR7 4 0 0 (some .int) X) (σ : gM) : GG gctM X 0 [(0, .inr (.inr 0))] [] σ (F_Mo_bury σ) := by
  unfold F_Mo_bury
  refine g_iconst C D_Mo_bury_0 ⟨by decide, by decide⟩ ?_
  refine g_istore_n (L' := [(1, .inl 0), (0, .inr (.inr 0))]) C D_Mo_bury_1 rfl (by decide) rfl ?_
  refine g_iconst C D_Mo_bury_2 ⟨by decide, by decide⟩ ?_
  refine g_istore_n (L' := [(2, .inl 0), (1, .inl 0), (0, .inr (.inr 0))]) C D_Mo_bury_3 rfl (by decide) rfl ?_
  refine g_sub [2, 1, 0] rfl ?_
  exact wl_Mo_bury_4 C (fun s2 b1 => by
      refine g_aload_n C D_Mo_bury_83 rfl 0 rfl ?_
      refine g_getr (ci := 7) C 42 rfl kI7 rfl (by decide) rfl rfl wf_7_112 D_Mo_bury_84 ?_
      refine g_bipush C D_Mo_bury_87 (by decide) ⟨by decide, by decide⟩ ?_
      refine g_dup2 C D_Mo_bury_89 rfl rfl ?_
      refine g_iald C rfl rfl rfl D_Mo_bury_90 ?_
      refine g_iload_n C D_Mo_bury_91 rfl 1 rfl ?_
      refine g_iadd C D_Mo_bury_92 (fun a3 => ?_)
      refine g_iast C rfl rfl D_Mo_bury_93 (fun s4 => ?_)
      refine g_iload_n C D_Mo_bury_94 rfl 1 rfl ?_
      exact g_iret C D_Mo_bury_95) 200 _ _ _
theorem c_Mo_bury {σ : gM} {r : gR} (ho : F_Mo_bury σ = some r) (hok : gOk [.inr (.inr 0)]) (hin : gIn gctM σ) : gCt gctM Y_Mo_bury prog_9_method_64_code 4 (some .int) 0 0 [.inr (.inr 0)] σ r := g_entry (by decide) rfl (Nat.le_of_ble_eq_true rfl) ho hok hin (fun X C => w_Mo_bury C σ)
theorem D_Mo_moveAll_0 : decode prog_9_method_65_code 0 = .ok (.iconst 0, 1) := by decide +kernel
theorem D_Mo_moveAll_1 : decode prog_9_method_65_code 1 = .ok (.istore_n 1, 1) := by decide +kernel
theorem D_Mo_moveAll_2 : decode prog_9_method_65_code 2 = .ok (.aload_n 0, 1) := by decide +kernel
theorem D_Mo_moveAll_3 : decode prog_9_method_65_code 3 = .ok (.iconst 0, 1) := by decide +kernel
theorem D_Mo_moveAll_4 : decode prog_9_method_65_code 4 = .ok (.invokevirtual 272, 3) := by decide +kernel
theorem D_Mo_moveAll_7 : decode prog_9_method_65_code 7 = .ok (.istore_n 2, 1) := by decide +kernel
theorem D_Mo_moveAll_8 : decode prog_9_method_65_code 8 = .ok (.iload_n 2, 1) := by decide +kernel
theorem D_Mo_moveAll_9 : decode prog_9_method_65_code 9 = .ok (.bipush (-4), 2) := by decide +kernel
theorem D_Mo_moveAll_11 : decode prog_9_method_65_code 11 = .ok (.if_icmp .eq 115, 3) := by decide +kernel
theorem D_Mo_moveAll_14 : decode prog_9_method_65_code 14 = .ok (.aload_n 0, 1) := by decide +kernel
theorem D_Mo_moveAll_15 : decode prog_9_method_65_code 15 = .ok (.getfield 87, 3) := by decide +kernel
theorem D_Mo_moveAll_18 : decode prog_9_method_65_code 18 = .ok (.iload_n 2, 1) := by decide +kernel
theorem D_Mo_moveAll_19 : decode prog_9_method_65_code 19 = .ok (.iaload, 1) := by decide +kernel
theorem D_Mo_moveAll_20 : decode prog_9_method_65_code 20 = .ok (.iconst 1, 1) := by decide +kernel
theorem D_Mo_moveAll_21 : decode prog_9_method_65_code 21 = .ok (.iadd, 1) := by decide +kernel
theorem D_Mo_moveAll_22 : decode prog_9_method_65_code 22 = .ok (.istore_n 3, 1) := by decide +kernel
theorem D_Mo_moveAll_23 : decode prog_9_method_65_code 23 = .ok (.aload_n 0, 1) := by decide +kernel
theorem D_Mo_moveAll_24 : decode prog_9_method_65_code 24 = .ok (.getfield 87, 3) := by decide +kernel
theorem D_Mo_moveAll_27 : decode prog_9_method_65_code 27 = .ok (.iload_n 2, 1) := by decide +kernel
theorem D_Mo_moveAll_28 : decode prog_9_method_65_code 28 = .ok (.iaload, 1) := by decide +kernel
theorem D_Mo_moveAll_29 : decode prog_9_method_65_code 29 = .ok (.iload_n 1, 1) := by decide +kernel
theorem D_Mo_moveAll_30 : decode prog_9_method_65_code 30 = .ok (.if_icmp .eq 75, 3) := by decide +kernel
theorem D_Mo_moveAll_33 : decode prog_9_method_65_code 33 = .ok (.iconst 0, 1) := by decide +kernel
theorem D_Mo_moveAll_34 : decode prog_9_method_65_code 34 = .ok (.istore 4, 2) := by decide +kernel
theorem D_Mo_moveAll_36 : decode prog_9_method_65_code 36 = .ok (.iload 4, 2) := by decide +kernel
theorem D_Mo_moveAll_38 : decode prog_9_method_65_code 38 = .ok (.aload_n 0, 1) := by decide +kernel
theorem D_Mo_moveAll_39 : decode prog_9_method_65_code 39 = .ok (.getfield 90, 3) := by decide +kernel
theorem D_Mo_moveAll_42 : decode prog_9_method_65_code 42 = .ok (.iload_n 2, 1) := by decide +kernel
theorem D_Mo_moveAll_43 : decode prog_9_method_65_code 43 = .ok (.iaload, 1) := by decide +kernel
theorem D_Mo_moveAll_44 : decode prog_9_method_65_code 44 = .ok (.if_icmp .ge 54, 3) := by decide +kernel
theorem D_Mo_moveAll_47 : decode prog_9_method_65_code 47 = .ok (.aload_n 0, 1) := by decide +kernel
theorem D_Mo_moveAll_48 : decode prog_9_method_65_code 48 = .ok (.iconst 0, 1) := by decide +kernel
theorem D_Mo_moveAll_49 : decode prog_9_method_65_code 49 = .ok (.aload_n 0, 1) := by decide +kernel
theorem D_Mo_moveAll_50 : decode prog_9_method_65_code 50 = .ok (.getfield 87, 3) := by decide +kernel
theorem D_Mo_moveAll_53 : decode prog_9_method_65_code 53 = .ok (.iload_n 2, 1) := by decide +kernel
theorem D_Mo_moveAll_54 : decode prog_9_method_65_code 54 = .ok (.iaload, 1) := by decide +kernel
theorem D_Mo_moveAll_55 : decode prog_9_method_65_code 55 = .ok (.iload 4, 2) := by decide +kernel
theorem D_Mo_moveAll_57 : decode prog_9_method_65_code 57 = .ok (.iadd, 1) := by decide +kernel
theorem D_Mo_moveAll_58 : decode prog_9_method_65_code 58 = .ok (.invokevirtual 259, 3) := by decide +kernel
theorem D_Mo_moveAll_61 : decode prog_9_method_65_code 61 = .ok (.istore 5, 2) := by decide +kernel
theorem D_Mo_moveAll_63 : decode prog_9_method_65_code 63 = .ok (.iload 5, 2) := by decide +kernel
theorem D_Mo_moveAll_65 : decode prog_9_method_65_code 65 = .ok (.bipush (-5), 2) := by decide +kernel
theorem D_Mo_moveAll_67 : decode prog_9_method_65_code 67 = .ok (.if_icmp .eq 25, 3) := by decide +kernel
theorem D_Mo_moveAll_70 : decode prog_9_method_65_code 70 = .ok (.aload_n 0, 1) := by decide +kernel
theorem D_Mo_moveAll_71 : decode prog_9_method_65_code 71 = .ok (.getfield 112, 3) := by decide +kernel
theorem D_Mo_moveAll_74 : decode prog_9_method_65_code 74 = .ok (.bipush 15, 2) := by decide +kernel
theorem D_Mo_moveAll_76 : decode prog_9_method_65_code 76 = .ok (.dup2, 1) := by decide +kernel
theorem D_Mo_moveAll_77 : decode prog_9_method_65_code 77 = .ok (.iaload, 1) := by decide +kernel
theorem D_Mo_moveAll_78 : decode prog_9_method_65_code 78 = .ok (.iconst 1, 1) := by decide +kernel
theorem D_Mo_moveAll_79 : decode prog_9_method_65_code 79 = .ok (.iadd, 1) := by decide +kernel
theorem D_Mo_moveAll_80 : decode prog_9_method_65_code 80 = .ok (.iastore, 1) := by decide +kernel
theorem D_Mo_moveAll_81 : decode prog_9_method_65_code 81 = .ok (.aload_n 0, 1) := by decide +kernel
theorem D_Mo_moveAll_82 : decode prog_9_method_65_code 82 = .ok (.iconst 0, 1) := by decide +kernel
theorem D_Mo_moveAll_83 : decode prog_9_method_65_code 83 = .ok (.iload_n 1, 1) := by decide +kernel
theorem D_Mo_moveAll_84 : decode prog_9_method_65_code 84 = .ok (.iload 4, 2) := by decide +kernel
theorem D_Mo_moveAll_86 : decode prog_9_method_65_code 86 = .ok (.iadd, 1) := by decide +kernel
theorem D_Mo_moveAll_87 : decode prog_9_method_65_code 87 = .ok (.iload 5, 2) := by decide +kernel
theorem D_Mo_moveAll_89 : decode prog_9_method_65_code 89 = .ok (.invokevirtual 266, 3) := by decide +kernel
theorem D_Mo_moveAll_92 : decode prog_9_method_65_code 92 = .ok (.iinc 4 1, 3) := by decide +kernel
theorem D_Mo_moveAll_95 : decode prog_9_method_65_code 95 = .ok (.goto (-59), 3) := by decide +kernel
theorem D_Mo_moveAll_98 : decode prog_9_method_65_code 98 = .ok (.aload_n 0, 1) := by decide +kernel
theorem D_Mo_moveAll_99 : decode prog_9_method_65_code 99 = .ok (.getfield 87, 3) := by decide +kernel
theorem D_Mo_moveAll_102 : decode prog_9_method_65_code 102 = .ok (.iload_n 2, 1) := by decide +kernel
theorem D_Mo_moveAll_103 : decode prog_9_method_65_code 103 = .ok (.iload_n 1, 1) := by decide +kernel
theorem D_Mo_moveAll_104 : decode prog_9_method_65_code 104 = .ok (.iastore, 1) := by decide +kernel
theorem D_Mo_moveAll_105 : decode prog_9_method_65_code 105 = .ok (.iload_n 1, 1) := by decide +kernel
theorem D_Mo_moveAll_106 : decode prog_9_method_65_code 106 = .ok (.aload_n 0, 1) := by decide +kernel
theorem D_Mo_moveAll_107 : decode prog_9_method_65_code 107 = .ok (.getfield 90, 3) := by decide +kernel
theorem D_Mo_moveAll_110 : decode prog_9_method_65_code 110 = .ok (.iload_n 2, 1) := by decide +kernel
theorem D_Mo_moveAll_111 : decode prog_9_method_65_code 111 = .ok (.iaload, 1) := by decide +kernel
theorem D_Mo_moveAll_112 : decode prog_9_method_65_code 112 = .ok (.invokestatic 275, 3) := by decide +kernel
theorem D_Mo_moveAll_115 : decode prog_9_method_65_code 115 = .ok (.iadd, 1) := by decide +kernel
theorem D_Mo_moveAll_116 : decode prog_9_method_65_code 116 = .ok (.istore_n 1, 1) := by decide +kernel
theorem D_Mo_moveAll_117 : decode prog_9_method_65_code 117 = .ok (.aload_n 0, 1) := by decide +kernel
theorem D_Mo_moveAll_118 : decode prog_9_method_65_code 118 = .ok (.iload_n 3, 1) := by decide +kernel
theorem D_Mo_moveAll_119 : decode prog_9_method_65_code 119 = .ok (.invokevirtual 272, 3) := by decide +kernel
theorem D_Mo_moveAll_122 : decode prog_9_method_65_code 122 = .ok (.istore_n 2, 1) := by decide +kernel
theorem D_Mo_moveAll_123 : decode prog_9_method_65_code 123 = .ok (.goto (-115), 3) := by decide +kernel
theorem D_Mo_moveAll_126 : decode prog_9_method_65_code 126 = .ok (.return_, 1) := by decide +kernel
def j_Mo_moveAll_105 (rec : gM → Int → Int → gO) (σ : gM) (v1 v2 v3 : Int) : gO :=
  gi v2 40 <|
  gk (F_Mo_rounded σ (σ 23 v2)) fun s1 a2 =>
  ga (v1 + a2) fun a3 =>
  gk (F_Mo_firstFrom s1 v3) fun s4 a5 =>
  rec s4 a3 a5
set_option maxHeartbeats 4000000 in
theorem wj_Mo_moveAll_105 {X : gX} (C : gC gctM prog_9_method_65_code kR7 6 9 216 (none) X) {rec : gM → Int → Int → gO} (hrec : ∀ (σ : gM) (a0 a1 : Int), GG gctM X 8 [(0, .inr (.inr 0)), (1, .inl a0), (2, .inl a1)] [] σ (rec σ a0 a1)) (σ : gM) (v1 v2 v3 : Int) : GG gctM X 105 [(0, .inr (.inr 0)), (1, .inl v1), (2, .inl v2), (3, .inl v3)] [] σ (j_Mo_moveAll_105 rec σ v1 v2 v3) := by
  unfold j_Mo_moveAll_105
  refine g_iload_n C D_Mo_moveAll_105 rfl 1 rfl ?_
  refine g_aload_n C D_Mo_moveAll_106 rfl 0 rfl ?_
  refine g_getr (ci := 7) C 34 rfl kI7 rfl (by decide) rfl rfl wf_7_90 D_Mo_moveAll_107 ?_
  refine g_iload_n C D_Mo_moveAll_110 rfl 2 rfl ?_
  refine g_iald C rfl rfl rfl D_Mo_moveAll_111 ?_
  refine g_callSi C [.inl (σ 23 v2)] [.inl v1] (Or.inl rfl) rfl (fun _ h1 h2 h3 => c_Mo_rounded h1 h2 h3) wc_7_275 (by decide) (Nat.le_of_ble_eq_true rfl) D_Mo_moveAll_112 (fun s1 a2 => ?_)
  refine g_iadd C D_Mo_moveAll_115 (fun a3 => ?_)
  refine g_istore_n (L' := [(1, .inl a3), (0, .inr (.inr 0)), (2, .inl v2), (3, .inl v3)]) C D_Mo_moveAll_116 rfl (by decide) rfl ?_
  refine g_aload_n C D_Mo_moveAll_117 rfl 1 rfl ?_
  refine g_iload_n C D_Mo_moveAll_118 rfl 3 rfl ?_
  refine g_callVi (ci := 7) C [.inl v3] [] (Or.inl rfl) rfl (fun _ h1 h2 h3 => c_Mo_firstFrom h1 h2 h3) rfl rfl wc_7_272 (by decide) (Nat.le_of_ble_eq_true rfl) D_Mo_moveAll_119 (fun s4 a5 => ?_)
  refine g_istore_n (L' := [(2, .inl a5), (1, .inl a3), (0, .inr (.inr 0)), (3, .inl v3)]) C D_Mo_moveAll_122 rfl (by decide) rfl ?_
  refine g_goto (tgt := 8) C D_Mo_moveAll_123 (by decide) ?_
  refine g_sub [2, 1, 0] rfl ?_
  exact hrec _ _ _
def j_Mo_moveAll_92 (k1 : gM → gO) (rec : gM → Int → gO) (σ : gM) (p1 p2 p3 v4 : Int) : gO :=
  ga (v4 + 1) fun a1 =>
  rec σ a1
set_option maxHeartbeats 4000000 in
theorem wj_Mo_moveAll_92 {X : gX} (C : gC gctM prog_9_method_65_code kR7 6 9 216 (none) X) {p1 p2 p3 : Int} {k1 : gM → gO} (hk1 : ∀ (σ : gM), GG gctM X 98 [(0, .inr (.inr 0)), (1, .inl p1), (2, .inl p2), (3, .inl p3)] [] σ (k1 σ)) {rec : gM → Int → gO} (hrec : ∀ (σ : gM) (a0 : Int), GG gctM X 36 [(0, .inr (.inr 0)), (1, .inl p1), (2, .inl p2), (3, .inl p3), (4, .inl a0)] [] σ (rec σ a0)) (σ : gM) (v4 : Int) : GG gctM X 92 [(0, .inr (.inr 0)), (1, .inl p1), (2, .inl p2), (3, .inl p3), (4, .inl v4)] [] σ (j_Mo_moveAll_92 k1 rec σ p1 p2 p3 v4) := by
  unfold j_Mo_moveAll_92
  refine g_iinc (t := 4) (L' := fun z => [(4, .inl z), (0, .inr (.inr 0)), (1, .inl p1), (2, .inl p2), (3, .inl p3)]) C D_Mo_moveAll_92 rfl (by decide) (fun _ => rfl) (fun a1 => ?_)
  refine g_goto (tgt := 36) C D_Mo_moveAll_95 (by decide) ?_
  refine g_sub [1, 2, 3, 4, 0] rfl ?_
  exact hrec _ _
def l_Mo_moveAll_36 (k1 : gM → gO) (p1 p2 p3 : Int) (rec : gM → Int → gO) (σ : gM) (v4 : Int) : gO :=
  gi p2 40 <|
  if v4 < (σ 23 p2) then
  (gi p2 40 <|
  ga ((σ 22 p2) + v4) fun a1 =>
  gk (F_Mo_loadByte σ 0 a1) fun s2 a3 =>
  if a3 = (-5) then
  (j_Mo_moveAll_92 k1 rec s2 p1 p2 p3 v4)
  else
  (gi 15 16 <|
  ga ((s2 30 15) + 1) fun a4 =>
  gw s2 30 16 15 a4 fun s5 =>
  ga (p1 + v4) fun a6 =>
  gk (F_Mo_saveByte s5 0 a6 a3) fun s7 _ =>
  j_Mo_moveAll_92 k1 rec s7 p1 p2 p3 v4))
  else
  (k1 σ)
set_option maxHeartbeats 4000000 in
theorem wl_Mo_moveAll_36 {X : gX} (C : gC gctM prog_9_method_65_code kR7 6 9 216 (none) X) {p1 p2 p3 : Int} {k1 : gM → gO} (hk1 : ∀ (σ : gM), GG gctM X 98 [(0, .inr (.inr 0)), (1, .inl p1), (2, .inl p2), (3, .inl p3)] [] σ (k1 σ)) : ∀ (n : Nat) (σ : gM) (a0 : Int), GG gctM X 36 [(0, .inr (.inr 0)), (1, .inl p1), (2, .inl p2), (3, .inl p3), (4, .inl a0)] [] σ (gl1 (l_Mo_moveAll_36 k1 p1 p2 p3) n σ a0) := by
  refine gl1_run (P := fun σ a0 o => GG gctM X 36 [(0, .inr (.inr 0)), (1, .inl p1), (2, .inl p2), (3, .inl p3), (4, .inl a0)] [] σ o) (fun _ _ => g_none) (fun rec hrec σ v4 => ?_)
  unfold l_Mo_moveAll_36
  refine g_iload C D_Mo_moveAll_36 4 rfl ?_
  refine g_aload_n C D_Mo_moveAll_38 rfl 0 rfl ?_
  refine g_getr (ci := 7) C 34 rfl kI7 rfl (by decide) rfl rfl wf_7_90 D_Mo_moveAll_39 ?_
  refine g_iload_n C D_Mo_moveAll_42 rfl 2 rfl ?_
  refine g_iald C rfl rfl rfl D_Mo_moveAll_43 ?_
  refine g_icmp_ge (tgt := 98) C D_Mo_moveAll_44 (by decide) ?_ ?_
  · refine g_sub [0, 1, 2, 3] rfl ?_
    exact hk1 _
  · refine g_aload_n C D_Mo_moveAll_47 rfl 0 rfl ?_
    refine g_iconst C D_Mo_moveAll_48 ⟨by decide, by decide⟩ ?_
    refine g_aload_n C D_Mo_moveAll_49 rfl 0 rfl ?_
    refine g_getr (ci := 7) C 33 rfl kI7 rfl (by decide) rfl rfl wf_7_87 D_Mo_moveAll_50 ?_
    refine g_iload_n C D_Mo_moveAll_53 rfl 2 rfl ?_
    refine g_iald C rfl rfl rfl D_Mo_moveAll_54 ?_
    refine g_iload C D_Mo_moveAll_55 4 rfl ?_
    refine g_iadd C D_Mo_moveAll_57 (fun a1 => ?_)
    refine g_callVi (ci := 7) C [.inl 0, .inl a1] [] (Or.inl rfl) rfl (fun _ h1 h2 h3 => c_Mo_loadByte h1 h2 h3) rfl rfl wc_7_259 (by decide) (Nat.le_of_ble_eq_true rfl) D_Mo_moveAll_58 (fun s2 a3 => ?_)
    refine g_istore (L' := [(5, .inl a3), (0, .inr (.inr 0)), (1, .inl p1), (2, .inl p2), (3, .inl p3), (4, .inl v4)]) C D_Mo_moveAll_61 (by decide) rfl ?_
    refine g_iload C D_Mo_moveAll_63 0 rfl ?_
    refine g_bipush C D_Mo_moveAll_65 (by decide) ⟨by decide, by decide⟩ ?_
    refine g_icmp_eq (tgt := 92) C D_Mo_moveAll_67 (by decide) ?_ ?_
    · refine g_sub [1, 2, 3, 4, 5] rfl ?_
      exact wj_Mo_moveAll_92 C hk1 hrec _ _
    · refine g_aload_n C D_Mo_moveAll_70 rfl 1 rfl ?_
      refine g_getr (ci := 7) C 42 rfl kI7 rfl (by decide) rfl rfl wf_7_112 D_Mo_moveAll_71 ?_
      refine g_bipush C D_Mo_moveAll_74 (by decide) ⟨by decide, by decide⟩ ?_
      refine g_dup2 C D_Mo_moveAll_76 rfl rfl ?_
      refine g_iald C rfl rfl rfl D_Mo_moveAll_77 ?_
      refine g_iconst C D_Mo_moveAll_78 ⟨by decide, by decide⟩ ?_
      refine g_iadd C D_Mo_moveAll_79 (fun a4 => ?_)
      refine g_iast C rfl rfl D_Mo_moveAll_80 (fun s5 => ?_)
      refine g_aload_n C D_Mo_moveAll_81 rfl 1 rfl ?_
      refine g_iconst C D_Mo_moveAll_82 ⟨by decide, by decide⟩ ?_
      refine g_iload_n C D_Mo_moveAll_83 rfl 2 rfl ?_
      refine g_iload C D_Mo_moveAll_84 5 rfl ?_
      refine g_iadd C D_Mo_moveAll_86 (fun a6 => ?_)
      refine g_iload C D_Mo_moveAll_87 0 rfl ?_
      refine g_callVv (ci := 7) C [.inl 0, .inl a6, .inl a3] [] rfl rfl (fun _ h1 h2 h3 => c_Mo_saveByte h1 h2 h3) rfl rfl wc_7_266 (by decide) (Nat.le_of_ble_eq_true rfl) D_Mo_moveAll_89 (fun s7 _ => ?_)
      refine g_sub [1, 2, 3, 4, 5] rfl ?_
      exact wj_Mo_moveAll_92 C hk1 hrec _ _
def l_Mo_moveAll_8 (rec : gM → Int → Int → gO) (σ : gM) (v1 v2 : Int) : gO :=
  if v2 = (-4) then
  (some (σ, 0))
  else
  (gi v2 40 <|
  ga ((σ 22 v2) + 1) fun a1 =>
  gi v2 40 <|
  if (σ 22 v2) = v1 then
  (j_Mo_moveAll_105 rec σ v1 v2 a1)
  else
  (gl1 (l_Mo_moveAll_36 (fun s2 => gw s2 22 40 v2 v1 fun s3 =>
  j_Mo_moveAll_105 rec s3 v1 v2 a1) v1 v2 a1) 200 σ 0))
set_option maxHeartbeats 4000000 in
theorem wl_Mo_moveAll_8 {X : gX} (C : gC gctM prog_9_method_65_code kR7 6 9 216 (none) X) : ∀ (n : Nat) (σ : gM) (a0 a1 : Int), GG gctM X 8 [(0, .inr (.inr 0)), (1, .inl a0), (2, .inl a1)] [] σ (gl2 (l_Mo_moveAll_8) n σ a0 a1) := by
  refine gl2_run (P := fun σ a0 a1 o => GG gctM X 8 [(0, .inr (.inr 0)), (1, .inl a0), (2, .inl a1)] [] σ o) (fun _ _ _ => g_none) (fun rec hrec σ v1 v2 => ?_)
  unfold l_Mo_moveAll_8
  refine g_iload_n C D_Mo_moveAll_8 rfl 2 rfl ?_
  refine g_bipush C D_Mo_moveAll_9 (by decide) ⟨by decide, by decide⟩ ?_
  refine g_icmp_eq (tgt := 126) C D_Mo_moveAll_11 (by decide) ?_ ?_
  · exact g_vret C D_Mo_moveAll_126
  · refine g_aload_n C D_Mo_moveAll_14 rfl 0 rfl ?_
    refine g_getr (ci := 7) C 33 rfl kI7 rfl (by decide) rfl rfl wf_7_87 D_Mo_moveAll_15 ?_
    refine g_iload_n C D_Mo_moveAll_18 rfl 2 rfl ?_
    refine g_iald C rfl rfl rfl D_Mo_moveAll_19 ?_
    refine g_iconst C D_Mo_moveAll_20 ⟨by decide, by decide⟩ ?_
    refine g_iadd C D_Mo_moveAll_21 (fun a1 => ?_)
    refine g_istore_n (L' := [(3, .inl a1), (0, .inr (.inr 0)), (1, .inl v1), (2, .inl v2)]) C D_Mo_moveAll_22 rfl (by decide) rfl ?_
    refine g_aload_n C D_Mo_moveAll_23 rfl 1 rfl ?_
    refine g_getr (ci := 7) C 33 rfl kI7 rfl (by decide) rfl rfl wf_7_87 D_Mo_moveAll_24 ?_
    refine g_iload_n C D_Mo_moveAll_27 rfl 3 rfl ?_
    refine g_iald C rfl rfl rfl D_Mo_moveAll_28 ?_
    refine g_iload_n C D_Mo_moveAll_29 rfl 2 rfl ?_
    refine g_icmp_eq (tgt := 105) C D_Mo_moveAll_30 (by decide) ?_ ?_
    · refine g_sub [1, 2, 3, 0] rfl ?_
      exact wj_Mo_moveAll_105 C hrec _ _ _ _
    · refine g_iconst C D_Mo_moveAll_33 ⟨by decide, by decide⟩ ?_
      refine g_istore (L' := [(4, .inl 0), (3, .inl a1), (0, .inr (.inr 0)), (1, .inl v1), (2, .inl v2)]) C D_Mo_moveAll_34 (by decide) rfl ?_
      refine g_sub [2, 3, 4, 1, 0] rfl ?_
      exact wl_Mo_moveAll_36 C (fun s2 => by
          refine g_aload_n C D_Mo_moveAll_98 rfl 0 rfl ?_
          refine g_getr (ci := 7) C 33 rfl kI7 rfl (by decide) rfl rfl wf_7_87 D_Mo_moveAll_99 ?_
          refine g_iload_n C D_Mo_moveAll_102 rfl 2 rfl ?_
          refine g_iload_n C D_Mo_moveAll_103 rfl 1 rfl ?_
          refine g_iast C rfl rfl D_Mo_moveAll_104 (fun s3 => ?_)
          exact wj_Mo_moveAll_105 C hrec _ _ _ _) 200 _ _
def F_Mo_moveAll (σ : gM) : gO :=
  gk (F_Mo_firstFrom σ 0) fun s1 a2 =>
  gl2 (l_Mo_moveAll_8) 200 s1 0 a2
set_option maxHeartbeats 4000000 in
theorem w_Mo_moveAll {X : gX} (C : gC gctM prog_9_method_65_code kR7 6 9 216 (none) X) (σ : gM) : GG gctM X 0 [(0, .inr (.inr 0))] [] σ (F_Mo_moveAll σ) := by
  unfold F_Mo_moveAll
  refine g_iconst C D_Mo_moveAll_0 ⟨by decide, by decide⟩ ?_
  refine g_istore_n (L' := [(1, .inl 0), (0, .inr (.inr 0))]) C D_Mo_moveAll_1 rfl (by decide) rfl ?_
  refine g_aload_n C D_Mo_moveAll_2 rfl 1 rfl ?_
  refine g_iconst C D_Mo_moveAll_3 ⟨by decide, by decide⟩ ?_
  refine g_callVi (ci := 7) C [.inl 0] [] (Or.inl rfl) rfl (fun _ h1 h2 h3 => c_Mo_firstFrom h1 h2 h3) rfl rfl wc_7_272 (by decide) (Nat.le_of_ble_eq_true rfl) D_Mo_moveAll_4 (fun s1 a2 => ?_)
  refine g_istore_n (L' := [(2, .inl a2), (1, .inl 0), (0, .inr (.inr 0))]) C D_Mo_moveAll_7 rfl (by decide) rfl ?_
  refine g_sub [2, 1, 0] rfl ?_
  exact wl_Mo_moveAll_8 C 200 _ _ _
theorem c_Mo_moveAll {σ : gM} {r : gR} (ho : F_Mo_moveAll σ = some r) (hok : gOk [.inr (.inr 0)]) (hin : gIn gctM σ) : gCt gctM Y_Mo_moveAll prog_9_method_65_code 6 (none) 9 216 [.inr (.inr 0)] σ r := g_entry (by decide) rfl (Nat.le_of_ble_eq_true rfl) ho hok hin (fun X C => w_Mo_moveAll C σ)
theorem D_Mo_gatherNow_0 : decode prog_9_method_66_code 0 = .ok (.aload_n 0, 1) := by decide +kernel
theorem D_Mo_gatherNow_1 : decode prog_9_method_66_code 1 = .ok (.iconst 1, 1) := by decide +kernel
theorem D_Mo_gatherNow_2 : decode prog_9_method_66_code 2 = .ok (.putfield 124, 3) := by decide +kernel
theorem D_Mo_gatherNow_5 : decode prog_9_method_66_code 5 = .ok (.aload_n 0, 1) := by decide +kernel
theorem D_Mo_gatherNow_6 : decode prog_9_method_66_code 6 = .ok (.getfield 112, 3) := by decide +kernel
theorem D_Mo_gatherNow_9 : decode prog_9_method_66_code 9 = .ok (.bipush 13, 2) := by decide +kernel
theorem D_Mo_gatherNow_11 : decode prog_9_method_66_code 11 = .ok (.dup2, 1) := by decide +kernel
theorem D_Mo_gatherNow_12 : decode prog_9_method_66_code 12 = .ok (.iaload, 1) := by decide +kernel
theorem D_Mo_gatherNow_13 : decode prog_9_method_66_code 13 = .ok (.iconst 1, 1) := by decide +kernel
theorem D_Mo_gatherNow_14 : decode prog_9_method_66_code 14 = .ok (.iadd, 1) := by decide +kernel
theorem D_Mo_gatherNow_15 : decode prog_9_method_66_code 15 = .ok (.iastore, 1) := by decide +kernel
theorem D_Mo_gatherNow_16 : decode prog_9_method_66_code 16 = .ok (.aload_n 0, 1) := by decide +kernel
theorem D_Mo_gatherNow_17 : decode prog_9_method_66_code 17 = .ok (.iconst 0, 1) := by decide +kernel
theorem D_Mo_gatherNow_18 : decode prog_9_method_66_code 18 = .ok (.putfield 299, 3) := by decide +kernel
theorem D_Mo_gatherNow_21 : decode prog_9_method_66_code 21 = .ok (.iconst 0, 1) := by decide +kernel
theorem D_Mo_gatherNow_22 : decode prog_9_method_66_code 22 = .ok (.istore_n 2, 1) := by decide +kernel
theorem D_Mo_gatherNow_23 : decode prog_9_method_66_code 23 = .ok (.iload_n 2, 1) := by decide +kernel
theorem D_Mo_gatherNow_24 : decode prog_9_method_66_code 24 = .ok (.bipush 40, 2) := by decide +kernel
theorem D_Mo_gatherNow_26 : decode prog_9_method_66_code 26 = .ok (.if_icmp .ge 16, 3) := by decide +kernel
theorem D_Mo_gatherNow_29 : decode prog_9_method_66_code 29 = .ok (.aload_n 0, 1) := by decide +kernel
theorem D_Mo_gatherNow_30 : decode prog_9_method_66_code 30 = .ok (.getfield 121, 3) := by decide +kernel
theorem D_Mo_gatherNow_33 : decode prog_9_method_66_code 33 = .ok (.iload_n 2, 1) := by decide +kernel
theorem D_Mo_gatherNow_34 : decode prog_9_method_66_code 34 = .ok (.iconst 0, 1) := by decide +kernel
theorem D_Mo_gatherNow_35 : decode prog_9_method_66_code 35 = .ok (.bastore, 1) := by decide +kernel
theorem D_Mo_gatherNow_36 : decode prog_9_method_66_code 36 = .ok (.iinc 2 1, 3) := by decide +kernel
theorem D_Mo_gatherNow_39 : decode prog_9_method_66_code 39 = .ok (.goto (-16), 3) := by decide +kernel
theorem D_Mo_gatherNow_42 : decode prog_9_method_66_code 42 = .ok (.iconst 0, 1) := by decide +kernel
theorem D_Mo_gatherNow_43 : decode prog_9_method_66_code 43 = .ok (.istore_n 2, 1) := by decide +kernel
theorem D_Mo_gatherNow_44 : decode prog_9_method_66_code 44 = .ok (.iload_n 2, 1) := by decide +kernel
theorem D_Mo_gatherNow_45 : decode prog_9_method_66_code 45 = .ok (.bipush 8, 2) := by decide +kernel
theorem D_Mo_gatherNow_47 : decode prog_9_method_66_code 47 = .ok (.if_icmp .ge 28, 3) := by decide +kernel
theorem D_Mo_gatherNow_50 : decode prog_9_method_66_code 50 = .ok (.aload_n 0, 1) := by decide +kernel
theorem D_Mo_gatherNow_51 : decode prog_9_method_66_code 51 = .ok (.getfield 103, 3) := by decide +kernel
theorem D_Mo_gatherNow_54 : decode prog_9_method_66_code 54 = .ok (.iload_n 2, 1) := by decide +kernel
theorem D_Mo_gatherNow_55 : decode prog_9_method_66_code 55 = .ok (.iaload, 1) := by decide +kernel
theorem D_Mo_gatherNow_56 : decode prog_9_method_66_code 56 = .ok (.ifCond .lt 13, 3) := by decide +kernel
theorem D_Mo_gatherNow_59 : decode prog_9_method_66_code 59 = .ok (.aload_n 0, 1) := by decide +kernel
theorem D_Mo_gatherNow_60 : decode prog_9_method_66_code 60 = .ok (.aload_n 0, 1) := by decide +kernel
theorem D_Mo_gatherNow_61 : decode prog_9_method_66_code 61 = .ok (.getfield 103, 3) := by decide +kernel
theorem D_Mo_gatherNow_64 : decode prog_9_method_66_code 64 = .ok (.iload_n 2, 1) := by decide +kernel
theorem D_Mo_gatherNow_65 : decode prog_9_method_66_code 65 = .ok (.iaload, 1) := by decide +kernel
theorem D_Mo_gatherNow_66 : decode prog_9_method_66_code 66 = .ok (.invokevirtual 302, 3) := by decide +kernel
theorem D_Mo_gatherNow_69 : decode prog_9_method_66_code 69 = .ok (.iinc 2 1, 3) := by decide +kernel
theorem D_Mo_gatherNow_72 : decode prog_9_method_66_code 72 = .ok (.goto (-28), 3) := by decide +kernel
theorem D_Mo_gatherNow_75 : decode prog_9_method_66_code 75 = .ok (.iconst 0, 1) := by decide +kernel
theorem D_Mo_gatherNow_76 : decode prog_9_method_66_code 76 = .ok (.istore_n 2, 1) := by decide +kernel
theorem D_Mo_gatherNow_77 : decode prog_9_method_66_code 77 = .ok (.iload_n 2, 1) := by decide +kernel
theorem D_Mo_gatherNow_78 : decode prog_9_method_66_code 78 = .ok (.bipush 40, 2) := by decide +kernel
theorem D_Mo_gatherNow_80 : decode prog_9_method_66_code 80 = .ok (.if_icmp .ge 38, 3) := by decide +kernel
theorem D_Mo_gatherNow_83 : decode prog_9_method_66_code 83 = .ok (.iload_n 1, 1) := by decide +kernel
theorem D_Mo_gatherNow_84 : decode prog_9_method_66_code 84 = .ok (.iconst 2, 1) := by decide +kernel
theorem D_Mo_gatherNow_85 : decode prog_9_method_66_code 85 = .ok (.if_icmp .ne 33, 3) := by decide +kernel
theorem D_Mo_gatherNow_88 : decode prog_9_method_66_code 88 = .ok (.aload_n 0, 1) := by decide +kernel
theorem D_Mo_gatherNow_89 : decode prog_9_method_66_code 89 = .ok (.getfield 84, 3) := by decide +kernel
theorem D_Mo_gatherNow_92 : decode prog_9_method_66_code 92 = .ok (.iload_n 2, 1) := by decide +kernel
theorem D_Mo_gatherNow_93 : decode prog_9_method_66_code 93 = .ok (.baload, 1) := by decide +kernel
theorem D_Mo_gatherNow_94 : decode prog_9_method_66_code 94 = .ok (.ifCond .eq 18, 3) := by decide +kernel
theorem D_Mo_gatherNow_97 : decode prog_9_method_66_code 97 = .ok (.aload_n 0, 1) := by decide +kernel
theorem D_Mo_gatherNow_98 : decode prog_9_method_66_code 98 = .ok (.getfield 93, 3) := by decide +kernel
theorem D_Mo_gatherNow_101 : decode prog_9_method_66_code 101 = .ok (.iload_n 2, 1) := by decide +kernel
theorem D_Mo_gatherNow_102 : decode prog_9_method_66_code 102 = .ok (.iaload, 1) := by decide +kernel
theorem D_Mo_gatherNow_103 : decode prog_9_method_66_code 103 = .ok (.iconst 2, 1) := by decide +kernel
theorem D_Mo_gatherNow_104 : decode prog_9_method_66_code 104 = .ok (.if_icmp .lt 8, 3) := by decide +kernel
theorem D_Mo_gatherNow_107 : decode prog_9_method_66_code 107 = .ok (.aload_n 0, 1) := by decide +kernel
theorem D_Mo_gatherNow_108 : decode prog_9_method_66_code 108 = .ok (.iload_n 2, 1) := by decide +kernel
theorem D_Mo_gatherNow_109 : decode prog_9_method_66_code 109 = .ok (.invokevirtual 302, 3) := by decide +kernel
theorem D_Mo_gatherNow_112 : decode prog_9_method_66_code 112 = .ok (.iinc 2 1, 3) := by decide +kernel
theorem D_Mo_gatherNow_115 : decode prog_9_method_66_code 115 = .ok (.goto (-38), 3) := by decide +kernel
theorem D_Mo_gatherNow_118 : decode prog_9_method_66_code 118 = .ok (.aload_n 0, 1) := by decide +kernel
theorem D_Mo_gatherNow_119 : decode prog_9_method_66_code 119 = .ok (.iconst 0, 1) := by decide +kernel
theorem D_Mo_gatherNow_120 : decode prog_9_method_66_code 120 = .ok (.invokevirtual 305, 3) := by decide +kernel
theorem D_Mo_gatherNow_123 : decode prog_9_method_66_code 123 = .ok (.iconst 0, 1) := by decide +kernel
theorem D_Mo_gatherNow_124 : decode prog_9_method_66_code 124 = .ok (.istore_n 2, 1) := by decide +kernel
theorem D_Mo_gatherNow_125 : decode prog_9_method_66_code 125 = .ok (.iload_n 2, 1) := by decide +kernel
theorem D_Mo_gatherNow_126 : decode prog_9_method_66_code 126 = .ok (.bipush 40, 2) := by decide +kernel
theorem D_Mo_gatherNow_128 : decode prog_9_method_66_code 128 = .ok (.if_icmp .ge 69, 3) := by decide +kernel
theorem D_Mo_gatherNow_131 : decode prog_9_method_66_code 131 = .ok (.aload_n 0, 1) := by decide +kernel
theorem D_Mo_gatherNow_132 : decode prog_9_method_66_code 132 = .ok (.getfield 84, 3) := by decide +kernel
theorem D_Mo_gatherNow_135 : decode prog_9_method_66_code 135 = .ok (.iload_n 2, 1) := by decide +kernel
theorem D_Mo_gatherNow_136 : decode prog_9_method_66_code 136 = .ok (.baload, 1) := by decide +kernel
theorem D_Mo_gatherNow_137 : decode prog_9_method_66_code 137 = .ok (.ifCond .eq 54, 3) := by decide +kernel
theorem D_Mo_gatherNow_140 : decode prog_9_method_66_code 140 = .ok (.aload_n 0, 1) := by decide +kernel
theorem D_Mo_gatherNow_141 : decode prog_9_method_66_code 141 = .ok (.getfield 121, 3) := by decide +kernel
theorem D_Mo_gatherNow_144 : decode prog_9_method_66_code 144 = .ok (.iload_n 2, 1) := by decide +kernel
theorem D_Mo_gatherNow_145 : decode prog_9_method_66_code 145 = .ok (.baload, 1) := by decide +kernel
theorem D_Mo_gatherNow_146 : decode prog_9_method_66_code 146 = .ok (.ifCond .ne 45, 3) := by decide +kernel
theorem D_Mo_gatherNow_149 : decode prog_9_method_66_code 149 = .ok (.aload_n 0, 1) := by decide +kernel
theorem D_Mo_gatherNow_150 : decode prog_9_method_66_code 150 = .ok (.getfield 96, 3) := by decide +kernel
theorem D_Mo_gatherNow_153 : decode prog_9_method_66_code 153 = .ok (.iload_n 2, 1) := by decide +kernel
theorem D_Mo_gatherNow_154 : decode prog_9_method_66_code 154 = .ok (.baload, 1) := by decide +kernel
theorem D_Mo_gatherNow_155 : decode prog_9_method_66_code 155 = .ok (.ifCond .eq 36, 3) := by decide +kernel
theorem D_Mo_gatherNow_158 : decode prog_9_method_66_code 158 = .ok (.aload_n 0, 1) := by decide +kernel
theorem D_Mo_gatherNow_159 : decode prog_9_method_66_code 159 = .ok (.getfield 96, 3) := by decide +kernel
theorem D_Mo_gatherNow_162 : decode prog_9_method_66_code 162 = .ok (.iload_n 2, 1) := by decide +kernel
theorem D_Mo_gatherNow_163 : decode prog_9_method_66_code 163 = .ok (.iconst 0, 1) := by decide +kernel
theorem D_Mo_gatherNow_164 : decode prog_9_method_66_code 164 = .ok (.bastore, 1) := by decide +kernel
theorem D_Mo_gatherNow_165 : decode prog_9_method_66_code 165 = .ok (.aload_n 0, 1) := by decide +kernel
theorem D_Mo_gatherNow_166 : decode prog_9_method_66_code 166 = .ok (.getfield 112, 3) := by decide +kernel
theorem D_Mo_gatherNow_169 : decode prog_9_method_66_code 169 = .ok (.bipush 10, 2) := by decide +kernel
theorem D_Mo_gatherNow_171 : decode prog_9_method_66_code 171 = .ok (.dup2, 1) := by decide +kernel
theorem D_Mo_gatherNow_172 : decode prog_9_method_66_code 172 = .ok (.iaload, 1) := by decide +kernel
theorem D_Mo_gatherNow_173 : decode prog_9_method_66_code 173 = .ok (.iconst 1, 1) := by decide +kernel
theorem D_Mo_gatherNow_174 : decode prog_9_method_66_code 174 = .ok (.iadd, 1) := by decide +kernel
theorem D_Mo_gatherNow_175 : decode prog_9_method_66_code 175 = .ok (.iastore, 1) := by decide +kernel
theorem D_Mo_gatherNow_176 : decode prog_9_method_66_code 176 = .ok (.aload_n 0, 1) := by decide +kernel
theorem D_Mo_gatherNow_177 : decode prog_9_method_66_code 177 = .ok (.getfield 299, 3) := by decide +kernel
theorem D_Mo_gatherNow_180 : decode prog_9_method_66_code 180 = .ok (.istore_n 3, 1) := by decide +kernel
theorem D_Mo_gatherNow_181 : decode prog_9_method_66_code 181 = .ok (.aload_n 0, 1) := by decide +kernel
theorem D_Mo_gatherNow_182 : decode prog_9_method_66_code 182 = .ok (.iload_n 2, 1) := by decide +kernel
theorem D_Mo_gatherNow_183 : decode prog_9_method_66_code 183 = .ok (.invokevirtual 302, 3) := by decide +kernel
theorem D_Mo_gatherNow_186 : decode prog_9_method_66_code 186 = .ok (.aload_n 0, 1) := by decide +kernel
theorem D_Mo_gatherNow_187 : decode prog_9_method_66_code 187 = .ok (.iload_n 3, 1) := by decide +kernel
theorem D_Mo_gatherNow_188 : decode prog_9_method_66_code 188 = .ok (.invokevirtual 305, 3) := by decide +kernel
theorem D_Mo_gatherNow_191 : decode prog_9_method_66_code 191 = .ok (.iinc 2 1, 3) := by decide +kernel
theorem D_Mo_gatherNow_194 : decode prog_9_method_66_code 194 = .ok (.goto (-69), 3) := by decide +kernel
theorem D_Mo_gatherNow_197 : decode prog_9_method_66_code 197 = .ok (.aload_n 0, 1) := by decide +kernel
theorem D_Mo_gatherNow_198 : decode prog_9_method_66_code 198 = .ok (.invokevirtual 308, 3) := by decide +kernel
theorem D_Mo_gatherNow_201 : decode prog_9_method_66_code 201 = .ok (.istore_n 2, 1) := by decide +kernel
theorem D_Mo_gatherNow_202 : decode prog_9_method_66_code 202 = .ok (.iload_n 1, 1) := by decide +kernel
theorem D_Mo_gatherNow_203 : decode prog_9_method_66_code 203 = .ok (.ifCond .le 7, 3) := by decide +kernel
theorem D_Mo_gatherNow_206 : decode prog_9_method_66_code 206 = .ok (.aload_n 0, 1) := by decide +kernel
theorem D_Mo_gatherNow_207 : decode prog_9_method_66_code 207 = .ok (.invokevirtual 311, 3) := by decide +kernel
theorem D_Mo_gatherNow_210 : decode prog_9_method_66_code 210 = .ok (.iconst 0, 1) := by decide +kernel
theorem D_Mo_gatherNow_211 : decode prog_9_method_66_code 211 = .ok (.istore_n 3, 1) := by decide +kernel
theorem D_Mo_gatherNow_212 : decode prog_9_method_66_code 212 = .ok (.iload_n 3, 1) := by decide +kernel
theorem D_Mo_gatherNow_213 : decode prog_9_method_66_code 213 = .ok (.bipush 40, 2) := by decide +kernel
theorem D_Mo_gatherNow_215 : decode prog_9_method_66_code 215 = .ok (.if_icmp .ge 32, 3) := by decide +kernel
theorem D_Mo_gatherNow_218 : decode prog_9_method_66_code 218 = .ok (.aload_n 0, 1) := by decide +kernel
theorem D_Mo_gatherNow_219 : decode prog_9_method_66_code 219 = .ok (.getfield 93, 3) := by decide +kernel
theorem D_Mo_gatherNow_222 : decode prog_9_method_66_code 222 = .ok (.iload_n 3, 1) := by decide +kernel
theorem D_Mo_gatherNow_223 : decode prog_9_method_66_code 223 = .ok (.dup2, 1) := by decide +kernel
theorem D_Mo_gatherNow_224 : decode prog_9_method_66_code 224 = .ok (.iaload, 1) := by decide +kernel
theorem D_Mo_gatherNow_225 : decode prog_9_method_66_code 225 = .ok (.aload_n 0, 1) := by decide +kernel
theorem D_Mo_gatherNow_226 : decode prog_9_method_66_code 226 = .ok (.getfield 84, 3) := by decide +kernel
theorem D_Mo_gatherNow_229 : decode prog_9_method_66_code 229 = .ok (.iload_n 3, 1) := by decide +kernel
theorem D_Mo_gatherNow_230 : decode prog_9_method_66_code 230 = .ok (.baload, 1) := by decide +kernel
theorem D_Mo_gatherNow_231 : decode prog_9_method_66_code 231 = .ok (.ifCond .eq 7, 3) := by decide +kernel
theorem D_Mo_gatherNow_234 : decode prog_9_method_66_code 234 = .ok (.iconst 1, 1) := by decide +kernel
theorem D_Mo_gatherNow_235 : decode prog_9_method_66_code 235 = .ok (.goto 4, 3) := by decide +kernel
theorem D_Mo_gatherNow_238 : decode prog_9_method_66_code 238 = .ok (.iconst 0, 1) := by decide +kernel
theorem D_Mo_gatherNow_239 : decode prog_9_method_66_code 239 = .ok (.iadd, 1) := by decide +kernel
theorem D_Mo_gatherNow_240 : decode prog_9_method_66_code 240 = .ok (.iastore, 1) := by decide +kernel
theorem D_Mo_gatherNow_241 : decode prog_9_method_66_code 241 = .ok (.iinc 3 1, 3) := by decide +kernel
theorem D_Mo_gatherNow_244 : decode prog_9_method_66_code 244 = .ok (.goto (-32), 3) := by decide +kernel
theorem D_Mo_gatherNow_247 : decode prog_9_method_66_code 247 = .ok (.aload_n 0, 1) := by decide +kernel
theorem D_Mo_gatherNow_248 : decode prog_9_method_66_code 248 = .ok (.iconst 0, 1) := by decide +kernel
theorem D_Mo_gatherNow_249 : decode prog_9_method_66_code 249 = .ok (.putfield 124, 3) := by decide +kernel
theorem D_Mo_gatherNow_252 : decode prog_9_method_66_code 252 = .ok (.iload_n 2, 1) := by decide +kernel
theorem D_Mo_gatherNow_253 : decode prog_9_method_66_code 253 = .ok (.ireturn, 1) := by decide +kernel
def l_Mo_gatherNow_23 (k1 : gM → gO) (p1 : Int) (rec : gM → Int → gO) (σ : gM) (v2 : Int) : gO :=
  if v2 < 40 then
  (gwb σ 33 40 v2 0 fun s1 =>
  ga (v2 + 1) fun a2 =>
  rec s1 a2)
  else
  (k1 σ)
set_option maxHeartbeats 4000000 in
theorem wl_Mo_gatherNow_23 {X : gX} (C : gC gctM prog_9_method_66_code kR7 4 10 241 (some .int) X) {p1 : Int} {k1 : gM → gO} (hk1 : ∀ (σ : gM), GG gctM X 42 [(0, .inr (.inr 0)), (1, .inl p1)] [] σ (k1 σ)) : ∀ (n : Nat) (σ : gM) (a0 : Int), GG gctM X 23 [(0, .inr (.inr 0)), (1, .inl p1), (2, .inl a0)] [] σ (gl1 (l_Mo_gatherNow_23 k1 p1) n σ a0) := by
  refine gl1_run (P := fun σ a0 o => GG gctM X 23 [(0, .inr (.inr 0)), (1, .inl p1), (2, .inl a0)] [] σ o) (fun _ _ => g_none) (fun rec hrec σ v2 => ?_)
  unfold l_Mo_gatherNow_23
  refine g_iload_n C D_Mo_gatherNow_23 rfl 2 rfl ?_
  refine g_bipush C D_Mo_gatherNow_24 (by decide) ⟨by decide, by decide⟩ ?_
  refine g_icmp_ge (tgt := 42) C D_Mo_gatherNow_26 (by decide) ?_ ?_
  · refine g_sub [0, 1] rfl ?_
    exact hk1 _
  · refine g_aload_n C D_Mo_gatherNow_29 rfl 0 rfl ?_
    refine g_getr (ci := 7) C 48 rfl kI7 rfl (by decide) rfl rfl wf_7_121 D_Mo_gatherNow_30 ?_
    refine g_iload_n C D_Mo_gatherNow_33 rfl 2 rfl ?_
    refine g_iconst C D_Mo_gatherNow_34 ⟨by decide, by decide⟩ ?_
    refine g_zast C rfl rfl D_Mo_gatherNow_35 (fun s1 => ?_)
    refine g_iinc (t := 2) (L' := fun z => [(2, .inl z), (0, .inr (.inr 0)), (1, .inl p1)]) C D_Mo_gatherNow_36 rfl (by decide) (fun _ => rfl) (fun a2 => ?_)
    refine g_goto (tgt := 23) C D_Mo_gatherNow_39 (by decide) ?_
    refine g_sub [1, 2, 0] rfl ?_
    exact hrec _ _
def j_Mo_gatherNow_69 (k1 : gM → gO) (rec : gM → Int → gO) (σ : gM) (p1 v2 : Int) : gO :=
  ga (v2 + 1) fun a1 =>
  rec σ a1
set_option maxHeartbeats 4000000 in
theorem wj_Mo_gatherNow_69 {X : gX} (C : gC gctM prog_9_method_66_code kR7 4 10 241 (some .int) X) {p1 : Int} {k1 : gM → gO} (hk1 : ∀ (σ : gM), GG gctM X 75 [(0, .inr (.inr 0)), (1, .inl p1)] [] σ (k1 σ)) {rec : gM → Int → gO} (hrec : ∀ (σ : gM) (a0 : Int), GG gctM X 44 [(0, .inr (.inr 0)), (1, .inl p1), (2, .inl a0)] [] σ (rec σ a0)) (σ : gM) (v2 : Int) : GG gctM X 69 [(0, .inr (.inr 0)), (1, .inl p1), (2, .inl v2)] [] σ (j_Mo_gatherNow_69 k1 rec σ p1 v2) := by
  unfold j_Mo_gatherNow_69
  refine g_iinc (t := 2) (L' := fun z => [(2, .inl z), (0, .inr (.inr 0)), (1, .inl p1)]) C D_Mo_gatherNow_69 rfl (by decide) (fun _ => rfl) (fun a1 => ?_)
  refine g_goto (tgt := 44) C D_Mo_gatherNow_72 (by decide) ?_
  refine g_sub [1, 2, 0] rfl ?_
  exact hrec _ _
def l_Mo_gatherNow_44 (k1 : gM → gO) (p1 : Int) (rec : gM → Int → gO) (σ : gM) (v2 : Int) : gO :=
  if v2 < 8 then
  (gi v2 8 <|
  if (σ 27 v2) < 0 then
  (j_Mo_gatherNow_69 k1 rec σ p1 v2)
  else
  (gi v2 8 <|
  gk (F_Mo_putBehind σ (σ 27 v2)) fun s1 _ =>
  j_Mo_gatherNow_69 k1 rec s1 p1 v2))
  else
  (k1 σ)
set_option maxHeartbeats 4000000 in
theorem wl_Mo_gatherNow_44 {X : gX} (C : gC gctM prog_9_method_66_code kR7 4 10 241 (some .int) X) {p1 : Int} {k1 : gM → gO} (hk1 : ∀ (σ : gM), GG gctM X 75 [(0, .inr (.inr 0)), (1, .inl p1)] [] σ (k1 σ)) : ∀ (n : Nat) (σ : gM) (a0 : Int), GG gctM X 44 [(0, .inr (.inr 0)), (1, .inl p1), (2, .inl a0)] [] σ (gl1 (l_Mo_gatherNow_44 k1 p1) n σ a0) := by
  refine gl1_run (P := fun σ a0 o => GG gctM X 44 [(0, .inr (.inr 0)), (1, .inl p1), (2, .inl a0)] [] σ o) (fun _ _ => g_none) (fun rec hrec σ v2 => ?_)
  unfold l_Mo_gatherNow_44
  refine g_iload_n C D_Mo_gatherNow_44 rfl 2 rfl ?_
  refine g_bipush C D_Mo_gatherNow_45 (by decide) ⟨by decide, by decide⟩ ?_
  refine g_icmp_ge (tgt := 75) C D_Mo_gatherNow_47 (by decide) ?_ ?_
  · refine g_sub [0, 1] rfl ?_
    exact hk1 _
  · refine g_aload_n C D_Mo_gatherNow_50 rfl 0 rfl ?_
    refine g_getr (ci := 7) C 38 rfl kI7 rfl (by decide) rfl rfl wf_7_103 D_Mo_gatherNow_51 ?_
    refine g_iload_n C D_Mo_gatherNow_54 rfl 2 rfl ?_
    refine g_iald C rfl rfl rfl D_Mo_gatherNow_55 ?_
    refine g_if_lt (tgt := 69) C D_Mo_gatherNow_56 (by decide) ?_ ?_
    · exact wj_Mo_gatherNow_69 C hk1 hrec _ _
    · refine g_aload_n C D_Mo_gatherNow_59 rfl 0 rfl ?_
      refine g_aload_n C D_Mo_gatherNow_60 rfl 0 rfl ?_
      refine g_getr (ci := 7) C 38 rfl kI7 rfl (by decide) rfl rfl wf_7_103 D_Mo_gatherNow_61 ?_
      refine g_iload_n C D_Mo_gatherNow_64 rfl 2 rfl ?_
      refine g_iald C rfl rfl rfl D_Mo_gatherNow_65 ?_
      refine g_callVv (ci := 7) C [.inl (σ 27 v2)] [] rfl rfl (fun _ h1 h2 h3 => c_Mo_putBehind h1 h2 h3) rfl rfl wc_7_302 (by decide) (Nat.le_of_ble_eq_true rfl) D_Mo_gatherNow_66 (fun s1 _ => ?_)
      exact wj_Mo_gatherNow_69 C hk1 hrec _ _
def j_Mo_gatherNow_112 (k1 : gM → gO) (rec : gM → Int → gO) (σ : gM) (p1 v2 : Int) : gO :=
  ga (v2 + 1) fun a1 =>
  rec σ a1
set_option maxHeartbeats 4000000 in
theorem wj_Mo_gatherNow_112 {X : gX} (C : gC gctM prog_9_method_66_code kR7 4 10 241 (some .int) X) {p1 : Int} {k1 : gM → gO} (hk1 : ∀ (σ : gM), GG gctM X 118 [(0, .inr (.inr 0)), (1, .inl p1)] [] σ (k1 σ)) {rec : gM → Int → gO} (hrec : ∀ (σ : gM) (a0 : Int), GG gctM X 77 [(0, .inr (.inr 0)), (1, .inl p1), (2, .inl a0)] [] σ (rec σ a0)) (σ : gM) (v2 : Int) : GG gctM X 112 [(0, .inr (.inr 0)), (1, .inl p1), (2, .inl v2)] [] σ (j_Mo_gatherNow_112 k1 rec σ p1 v2) := by
  unfold j_Mo_gatherNow_112
  refine g_iinc (t := 2) (L' := fun z => [(2, .inl z), (0, .inr (.inr 0)), (1, .inl p1)]) C D_Mo_gatherNow_112 rfl (by decide) (fun _ => rfl) (fun a1 => ?_)
  refine g_goto (tgt := 77) C D_Mo_gatherNow_115 (by decide) ?_
  refine g_sub [1, 2, 0] rfl ?_
  exact hrec _ _
def l_Mo_gatherNow_77 (k1 : gM → gO) (p1 : Int) (rec : gM → Int → gO) (σ : gM) (v2 : Int) : gO :=
  if v2 < 40 then
  (if p1 = 2 then
  (gi v2 40 <|
  if (σ 21 v2) = 0 then
  (j_Mo_gatherNow_112 k1 rec σ p1 v2)
  else
  (gi v2 40 <|
  if (σ 24 v2) < 2 then
  (j_Mo_gatherNow_112 k1 rec σ p1 v2)
  else
  (gk (F_Mo_putBehind σ v2) fun s1 _ =>
  j_Mo_gatherNow_112 k1 rec s1 p1 v2)))
  else
  (k1 σ))
  else
  (k1 σ)
set_option maxHeartbeats 4000000 in
theorem wl_Mo_gatherNow_77 {X : gX} (C : gC gctM prog_9_method_66_code kR7 4 10 241 (some .int) X) {p1 : Int} {k1 : gM → gO} (hk1 : ∀ (σ : gM), GG gctM X 118 [(0, .inr (.inr 0)), (1, .inl p1)] [] σ (k1 σ)) : ∀ (n : Nat) (σ : gM) (a0 : Int), GG gctM X 77 [(0, .inr (.inr 0)), (1, .inl p1), (2, .inl a0)] [] σ (gl1 (l_Mo_gatherNow_77 k1 p1) n σ a0) := by
  refine gl1_run (P := fun σ a0 o => GG gctM X 77 [(0, .inr (.inr 0)), (1, .inl p1), (2, .inl a0)] [] σ o) (fun _ _ => g_none) (fun rec hrec σ v2 => ?_)
  unfold l_Mo_gatherNow_77
  refine g_iload_n C D_Mo_gatherNow_77 rfl 2 rfl ?_
  refine g_bipush C D_Mo_gatherNow_78 (by decide) ⟨by decide, by decide⟩ ?_
  refine g_icmp_ge (tgt := 118) C D_Mo_gatherNow_80 (by decide) ?_ ?_
  · refine g_sub [0, 1] rfl ?_
    exact hk1 _
  · refine g_iload_n C D_Mo_gatherNow_83 rfl 1 rfl ?_
    refine g_iconst C D_Mo_gatherNow_84 ⟨by decide, by decide⟩ ?_
    refine g_icmp_ne (tgt := 118) C D_Mo_gatherNow_85 (by decide) ?_ ?_
    · refine g_sub [0, 1] rfl ?_
      exact hk1 _
    · refine g_aload_n C D_Mo_gatherNow_88 rfl 0 rfl ?_
      refine g_getr (ci := 7) C 32 rfl kI7 rfl (by decide) rfl rfl wf_7_84 D_Mo_gatherNow_89 ?_
      refine g_iload_n C D_Mo_gatherNow_92 rfl 2 rfl ?_
      refine g_zald C rfl rfl rfl D_Mo_gatherNow_93 ?_
      refine g_if_eq (tgt := 112) C D_Mo_gatherNow_94 (by decide) ?_ ?_
      · exact wj_Mo_gatherNow_112 C hk1 hrec _ _
      · refine g_aload_n C D_Mo_gatherNow_97 rfl 0 rfl ?_
        refine g_getr (ci := 7) C 35 rfl kI7 rfl (by decide) rfl rfl wf_7_93 D_Mo_gatherNow_98 ?_
        refine g_iload_n C D_Mo_gatherNow_101 rfl 2 rfl ?_
        refine g_iald C rfl rfl rfl D_Mo_gatherNow_102 ?_
        refine g_iconst C D_Mo_gatherNow_103 ⟨by decide, by decide⟩ ?_
        refine g_icmp_lt (tgt := 112) C D_Mo_gatherNow_104 (by decide) ?_ ?_
        · exact wj_Mo_gatherNow_112 C hk1 hrec _ _
        · refine g_aload_n C D_Mo_gatherNow_107 rfl 0 rfl ?_
          refine g_iload_n C D_Mo_gatherNow_108 rfl 2 rfl ?_
          refine g_callVv (ci := 7) C [.inl v2] [] rfl rfl (fun _ h1 h2 h3 => c_Mo_putBehind h1 h2 h3) rfl rfl wc_7_302 (by decide) (Nat.le_of_ble_eq_true rfl) D_Mo_gatherNow_109 (fun s1 _ => ?_)
          exact wj_Mo_gatherNow_112 C hk1 hrec _ _
def j_Mo_gatherNow_191 (k1 : gM → gO) (rec : gM → Int → gO) (σ : gM) (p1 v2 : Int) : gO :=
  ga (v2 + 1) fun a1 =>
  rec σ a1
set_option maxHeartbeats 4000000 in
theorem wj_Mo_gatherNow_191 {X : gX} (C : gC gctM prog_9_method_66_code kR7 4 10 241 (some .int) X) {p1 : Int} {k1 : gM → gO} (hk1 : ∀ (σ : gM), GG gctM X 197 [(0, .inr (.inr 0)), (1, .inl p1)] [] σ (k1 σ)) {rec : gM → Int → gO} (hrec : ∀ (σ : gM) (a0 : Int), GG gctM X 125 [(0, .inr (.inr 0)), (1, .inl p1), (2, .inl a0)] [] σ (rec σ a0)) (σ : gM) (v2 : Int) : GG gctM X 191 [(0, .inr (.inr 0)), (1, .inl p1), (2, .inl v2)] [] σ (j_Mo_gatherNow_191 k1 rec σ p1 v2) := by
  unfold j_Mo_gatherNow_191
  refine g_iinc (t := 2) (L' := fun z => [(2, .inl z), (0, .inr (.inr 0)), (1, .inl p1)]) C D_Mo_gatherNow_191 rfl (by decide) (fun _ => rfl) (fun a1 => ?_)
  refine g_goto (tgt := 125) C D_Mo_gatherNow_194 (by decide) ?_
  refine g_sub [1, 2, 0] rfl ?_
  exact hrec _ _
def l_Mo_gatherNow_125 (k1 : gM → gO) (p1 : Int) (rec : gM → Int → gO) (σ : gM) (v2 : Int) : gO :=
  if v2 < 40 then
  (gi v2 40 <|
  if (σ 21 v2) = 0 then
  (j_Mo_gatherNow_191 k1 rec σ p1 v2)
  else
  (gi v2 40 <|
  if (σ 33 v2) = 0 then
  (gi v2 40 <|
  if (σ 25 v2) = 0 then
  (j_Mo_gatherNow_191 k1 rec σ p1 v2)
  else
  (gwb σ 25 40 v2 0 fun s1 =>
  gi 10 16 <|
  ga ((s1 30 10) + 1) fun a2 =>
  gw s1 30 16 10 a2 fun s3 =>
  gv (s3 0 46) fun a4 =>
  gk (F_Mo_putBehind s3 v2) fun s5 _ =>
  gk (F_Mo_follow s5 a4) fun s6 _ =>
  j_Mo_gatherNow_191 k1 rec s6 p1 v2))
  else
  (j_Mo_gatherNow_191 k1 rec σ p1 v2)))
  else
  (k1 σ)
set_option maxHeartbeats 4000000 in
theorem wl_Mo_gatherNow_125 {X : gX} (C : gC gctM prog_9_method_66_code kR7 4 10 241 (some .int) X) {p1 : Int} {k1 : gM → gO} (hk1 : ∀ (σ : gM), GG gctM X 197 [(0, .inr (.inr 0)), (1, .inl p1)] [] σ (k1 σ)) : ∀ (n : Nat) (σ : gM) (a0 : Int), GG gctM X 125 [(0, .inr (.inr 0)), (1, .inl p1), (2, .inl a0)] [] σ (gl1 (l_Mo_gatherNow_125 k1 p1) n σ a0) := by
  refine gl1_run (P := fun σ a0 o => GG gctM X 125 [(0, .inr (.inr 0)), (1, .inl p1), (2, .inl a0)] [] σ o) (fun _ _ => g_none) (fun rec hrec σ v2 => ?_)
  unfold l_Mo_gatherNow_125
  refine g_iload_n C D_Mo_gatherNow_125 rfl 2 rfl ?_
  refine g_bipush C D_Mo_gatherNow_126 (by decide) ⟨by decide, by decide⟩ ?_
  refine g_icmp_ge (tgt := 197) C D_Mo_gatherNow_128 (by decide) ?_ ?_
  · refine g_sub [0, 1] rfl ?_
    exact hk1 _
  · refine g_aload_n C D_Mo_gatherNow_131 rfl 0 rfl ?_
    refine g_getr (ci := 7) C 32 rfl kI7 rfl (by decide) rfl rfl wf_7_84 D_Mo_gatherNow_132 ?_
    refine g_iload_n C D_Mo_gatherNow_135 rfl 2 rfl ?_
    refine g_zald C rfl rfl rfl D_Mo_gatherNow_136 ?_
    refine g_if_eq (tgt := 191) C D_Mo_gatherNow_137 (by decide) ?_ ?_
    · exact wj_Mo_gatherNow_191 C hk1 hrec _ _
    · refine g_aload_n C D_Mo_gatherNow_140 rfl 0 rfl ?_
      refine g_getr (ci := 7) C 48 rfl kI7 rfl (by decide) rfl rfl wf_7_121 D_Mo_gatherNow_141 ?_
      refine g_iload_n C D_Mo_gatherNow_144 rfl 2 rfl ?_
      refine g_zald C rfl rfl rfl D_Mo_gatherNow_145 ?_
      refine g_if_ne (tgt := 191) C D_Mo_gatherNow_146 (by decide) ?_ ?_
      · exact wj_Mo_gatherNow_191 C hk1 hrec _ _
      · refine g_aload_n C D_Mo_gatherNow_149 rfl 0 rfl ?_
        refine g_getr (ci := 7) C 36 rfl kI7 rfl (by decide) rfl rfl wf_7_96 D_Mo_gatherNow_150 ?_
        refine g_iload_n C D_Mo_gatherNow_153 rfl 2 rfl ?_
        refine g_zald C rfl rfl rfl D_Mo_gatherNow_154 ?_
        refine g_if_eq (tgt := 191) C D_Mo_gatherNow_155 (by decide) ?_ ?_
        · exact wj_Mo_gatherNow_191 C hk1 hrec _ _
        · refine g_aload_n C D_Mo_gatherNow_158 rfl 0 rfl ?_
          refine g_getr (ci := 7) C 36 rfl kI7 rfl (by decide) rfl rfl wf_7_96 D_Mo_gatherNow_159 ?_
          refine g_iload_n C D_Mo_gatherNow_162 rfl 2 rfl ?_
          refine g_iconst C D_Mo_gatherNow_163 ⟨by decide, by decide⟩ ?_
          refine g_zast C rfl rfl D_Mo_gatherNow_164 (fun s1 => ?_)
          refine g_aload_n C D_Mo_gatherNow_165 rfl 0 rfl ?_
          refine g_getr (ci := 7) C 42 rfl kI7 rfl (by decide) rfl rfl wf_7_112 D_Mo_gatherNow_166 ?_
          refine g_bipush C D_Mo_gatherNow_169 (by decide) ⟨by decide, by decide⟩ ?_
          refine g_dup2 C D_Mo_gatherNow_171 rfl rfl ?_
          refine g_iald C rfl rfl rfl D_Mo_gatherNow_172 ?_
          refine g_iconst C D_Mo_gatherNow_173 ⟨by decide, by decide⟩ ?_
          refine g_iadd C D_Mo_gatherNow_174 (fun a2 => ?_)
          refine g_iast C rfl rfl D_Mo_gatherNow_175 (fun s3 => ?_)
          refine g_aload_n C D_Mo_gatherNow_176 rfl 0 rfl ?_
          refine g_get (ci := 7) C 46 (jz := 46) rfl rfl kI7 rfl (by decide) rfl rfl wf_7_299 rfl D_Mo_gatherNow_177 ?_
          refine g_let C (fun a4 => ?_)
          refine g_istore_n (L' := [(3, .inl a4), (0, .inr (.inr 0)), (1, .inl p1), (2, .inl v2)]) C D_Mo_gatherNow_180 rfl (by decide) rfl ?_
          refine g_aload_n C D_Mo_gatherNow_181 rfl 1 rfl ?_
          refine g_iload_n C D_Mo_gatherNow_182 rfl 3 rfl ?_
          refine g_callVv (ci := 7) C [.inl v2] [] rfl rfl (fun _ h1 h2 h3 => c_Mo_putBehind h1 h2 h3) rfl rfl wc_7_302 (by decide) (Nat.le_of_ble_eq_true rfl) D_Mo_gatherNow_183 (fun s5 _ => ?_)
          refine g_aload_n C D_Mo_gatherNow_186 rfl 1 rfl ?_
          refine g_iload_n C D_Mo_gatherNow_187 rfl 0 rfl ?_
          refine g_callVv (ci := 7) C [.inl a4] [] rfl rfl (fun _ h1 h2 h3 => c_Mo_follow h1 h2 h3) rfl rfl wc_7_305 (by decide) (Nat.le_of_ble_eq_true rfl) D_Mo_gatherNow_188 (fun s6 _ => ?_)
          refine g_sub [1, 2, 3] rfl ?_
          exact wj_Mo_gatherNow_191 C hk1 hrec _ _
def j_Mo_gatherNow_239_24 (rec : gM → Int → gO) (σ : gM) (p2 v3 t0 t1 t2 : Int) : gO :=
  ga (t1 + t0) fun a1 =>
  gw σ 24 40 t2 a1 fun s2 =>
  ga (v3 + 1) fun a3 =>
  rec s2 a3
set_option maxHeartbeats 4000000 in
theorem wj_Mo_gatherNow_239_24 {X : gX} (C : gC gctM prog_9_method_66_code kR7 4 10 241 (some .int) X) {p2 : Int} {rec : gM → Int → gO} (hrec : ∀ (σ : gM) (a0 : Int), GG gctM X 212 [(0, .inr (.inr 0)), (2, .inl p2), (3, .inl a0)] [] σ (rec σ a0)) (σ : gM) (v3 t0 t1 t2 : Int) : GG gctM X 239 [(0, .inr (.inr 0)), (2, .inl p2), (3, .inl v3)] [.inl t0, .inl t1, .inl t2, .inr (.inr 24)] σ (j_Mo_gatherNow_239_24 rec σ p2 v3 t0 t1 t2) := by
  unfold j_Mo_gatherNow_239_24
  refine g_iadd C D_Mo_gatherNow_239 (fun a1 => ?_)
  refine g_iast C rfl rfl D_Mo_gatherNow_240 (fun s2 => ?_)
  refine g_iinc (t := 2) (L' := fun z => [(3, .inl z), (0, .inr (.inr 0)), (2, .inl p2)]) C D_Mo_gatherNow_241 rfl (by decide) (fun _ => rfl) (fun a3 => ?_)
  refine g_goto (tgt := 212) C D_Mo_gatherNow_244 (by decide) ?_
  refine g_sub [1, 2, 0] rfl ?_
  exact hrec _ _
def l_Mo_gatherNow_212 (p2 : Int) (rec : gM → Int → gO) (σ : gM) (v3 : Int) : gO :=
  if v3 < 40 then
  (gi v3 40 <|
  gi v3 40 <|
  if (σ 21 v3) = 0 then
  (j_Mo_gatherNow_239_24 rec σ p2 v3 0 (σ 24 v3) v3)
  else
  (j_Mo_gatherNow_239_24 rec σ p2 v3 1 (σ 24 v3) v3))
  else
  (gpb σ 0 40 0 fun s1 =>
  some (s1, p2))
set_option maxHeartbeats 4000000 in
theorem wl_Mo_gatherNow_212 {X : gX} (C : gC gctM prog_9_method_66_code kR7 4 10 241 (some .int) X) {p2 : Int} : ∀ (n : Nat) (σ : gM) (a0 : Int), GG gctM X 212 [(0, .inr (.inr 0)), (2, .inl p2), (3, .inl a0)] [] σ (gl1 (l_Mo_gatherNow_212 p2) n σ a0) := by
  refine gl1_run (P := fun σ a0 o => GG gctM X 212 [(0, .inr (.inr 0)), (2, .inl p2), (3, .inl a0)] [] σ o) (fun _ _ => g_none) (fun rec hrec σ v3 => ?_)
  unfold l_Mo_gatherNow_212
  refine g_iload_n C D_Mo_gatherNow_212 rfl 2 rfl ?_
  refine g_bipush C D_Mo_gatherNow_213 (by decide) ⟨by decide, by decide⟩ ?_
  refine g_icmp_ge (tgt := 247) C D_Mo_gatherNow_215 (by decide) ?_ ?_
  · refine g_aload_n C D_Mo_gatherNow_247 rfl 0 rfl ?_
    refine g_iconst C D_Mo_gatherNow_248 ⟨by decide, by decide⟩ ?_
    refine g_putZ (ci := 7) C 40 (jz := 40) rfl rfl kI7 kO7 kN7 rfl (by decide) rfl rfl wf_7_124 D_Mo_gatherNow_249 (fun s1 => ?_)
    refine g_iload_n C D_Mo_gatherNow_252 rfl 1 rfl ?_
    exact g_iret C D_Mo_gatherNow_253
  · refine g_aload_n C D_Mo_gatherNow_218 rfl 0 rfl ?_
    refine g_getr (ci := 7) C 35 rfl kI7 rfl (by decide) rfl rfl wf_7_93 D_Mo_gatherNow_219 ?_
    refine g_iload_n C D_Mo_gatherNow_222 rfl 2 rfl ?_
    refine g_dup2 C D_Mo_gatherNow_223 rfl rfl ?_
    refine g_iald C rfl rfl rfl D_Mo_gatherNow_224 ?_
    refine g_aload_n C D_Mo_gatherNow_225 rfl 0 rfl ?_
    refine g_getr (ci := 7) C 32 rfl kI7 rfl (by decide) rfl rfl wf_7_84 D_Mo_gatherNow_226 ?_
    refine g_iload_n C D_Mo_gatherNow_229 rfl 2 rfl ?_
    refine g_zald C rfl rfl rfl D_Mo_gatherNow_230 ?_
    refine g_if_eq (tgt := 238) C D_Mo_gatherNow_231 (by decide) ?_ ?_
    · refine g_iconst C D_Mo_gatherNow_238 ⟨by decide, by decide⟩ ?_
      exact wj_Mo_gatherNow_239_24 C hrec _ _ _ _ _
    · refine g_iconst C D_Mo_gatherNow_234 ⟨by decide, by decide⟩ ?_
      refine g_goto (tgt := 239) C D_Mo_gatherNow_235 (by decide) ?_
      exact wj_Mo_gatherNow_239_24 C hrec _ _ _ _ _
def j_Mo_gatherNow_210 (σ : gM) (v2 : Int) : gO :=
  gl1 (l_Mo_gatherNow_212 v2) 200 σ 0
set_option maxHeartbeats 4000000 in
theorem wj_Mo_gatherNow_210 {X : gX} (C : gC gctM prog_9_method_66_code kR7 4 10 241 (some .int) X) (σ : gM) (v2 : Int) : GG gctM X 210 [(0, .inr (.inr 0)), (2, .inl v2)] [] σ (j_Mo_gatherNow_210 σ v2) := by
  unfold j_Mo_gatherNow_210
  refine g_iconst C D_Mo_gatherNow_210 ⟨by decide, by decide⟩ ?_
  refine g_istore_n (L' := [(3, .inl 0), (0, .inr (.inr 0)), (2, .inl v2)]) C D_Mo_gatherNow_211 rfl (by decide) rfl ?_
  refine g_sub [1, 2, 0] rfl ?_
  exact wl_Mo_gatherNow_212 C 200 _ _
def j_Mo_gatherNow_118 (σ : gM) (v1 : Int) : gO :=
  gk (F_Mo_follow σ 0) fun s1 _ =>
  gl1 (l_Mo_gatherNow_125 (fun s2 => gk (F_Mo_bury s2) fun s3 a4 =>
  if 0 < v1 then
  (gk (F_Mo_moveAll s3) fun s5 _ =>
  j_Mo_gatherNow_210 s5 a4)
  else
  (j_Mo_gatherNow_210 s3 a4)) v1) 200 s1 0
set_option maxHeartbeats 4000000 in
theorem wj_Mo_gatherNow_118 {X : gX} (C : gC gctM prog_9_method_66_code kR7 4 10 241 (some .int) X) (σ : gM) (v1 : Int) : GG gctM X 118 [(0, .inr (.inr 0)), (1, .inl v1)] [] σ (j_Mo_gatherNow_118 σ v1) := by
  unfold j_Mo_gatherNow_118
  refine g_aload_n C D_Mo_gatherNow_118 rfl 0 rfl ?_
  refine g_iconst C D_Mo_gatherNow_119 ⟨by decide, by decide⟩ ?_
  refine g_callVv (ci := 7) C [.inl 0] [] rfl rfl (fun _ h1 h2 h3 => c_Mo_follow h1 h2 h3) rfl rfl wc_7_305 (by decide) (Nat.le_of_ble_eq_true rfl) D_Mo_gatherNow_120 (fun s1 _ => ?_)
  refine g_iconst C D_Mo_gatherNow_123 ⟨by decide, by decide⟩ ?_
  refine g_istore_n (L' := [(2, .inl 0), (0, .inr (.inr 0)), (1, .inl v1)]) C D_Mo_gatherNow_124 rfl (by decide) rfl ?_
  refine g_sub [1, 2, 0] rfl ?_
  exact wl_Mo_gatherNow_125 C (fun s2 => by
      refine g_aload_n C D_Mo_gatherNow_197 rfl 0 rfl ?_
      refine g_callVi (ci := 7) C [] [] (Or.inl rfl) rfl (fun _ h1 h2 h3 => c_Mo_bury h1 h2 h3) rfl rfl wc_7_308 (by decide) (Nat.le_of_ble_eq_true rfl) D_Mo_gatherNow_198 (fun s3 a4 => ?_)
      refine g_istore_n (L' := [(2, .inl a4), (0, .inr (.inr 0)), (1, .inl v1)]) C D_Mo_gatherNow_201 rfl (by decide) rfl ?_
      refine g_iload_n C D_Mo_gatherNow_202 rfl 2 rfl ?_
      refine g_if_le (tgt := 210) C D_Mo_gatherNow_203 (by decide) ?_ ?_
      · refine g_sub [1, 0] rfl ?_
        exact wj_Mo_gatherNow_210 C _ _
      · refine g_aload_n C D_Mo_gatherNow_206 rfl 1 rfl ?_
        refine g_callVv (ci := 7) C [] [] rfl rfl (fun _ h1 h2 h3 => c_Mo_moveAll h1 h2 h3) rfl rfl wc_7_311 (by decide) (Nat.le_of_ble_eq_true rfl) D_Mo_gatherNow_207 (fun s5 _ => ?_)
        refine g_sub [1, 0] rfl ?_
        exact wj_Mo_gatherNow_210 C _ _) 200 _ _
def F_Mo_gatherNow (σ : gM) (v1 : Int) : gO :=
  gpb σ 0 40 1 fun s1 =>
  gi 13 16 <|
  ga ((s1 30 13) + 1) fun a2 =>
  gw s1 30 16 13 a2 fun s3 =>
  gp s3 0 46 0 fun s4 =>
  gl1 (l_Mo_gatherNow_23 (fun s5 => gl1 (l_Mo_gatherNow_44 (fun s6 => gl1 (l_Mo_gatherNow_77 (fun s7 => j_Mo_gatherNow_118 s7 v1) v1) 200 s6 0) v1) 200 s5 0) v1) 200 s4 0
set_option maxHeartbeats 4000000 in
theorem w_Mo_gatherNow {X : gX} (C : gC gctM prog_9_method_66_code kR7 4 10 241 (some .int) X) (σ : gM) (v1 : Int) : GG gctM X 0 [(0, .inr (.inr 0)), (1, .inl v1)] [] σ (F_Mo_gatherNow σ v1) := by
  unfold F_Mo_gatherNow
  refine g_aload_n C D_Mo_gatherNow_0 rfl 0 rfl ?_
  refine g_iconst C D_Mo_gatherNow_1 ⟨by decide, by decide⟩ ?_
  refine g_putZ (ci := 7) C 40 (jz := 40) rfl rfl kI7 kO7 kN7 rfl (by decide) rfl rfl wf_7_124 D_Mo_gatherNow_2 (fun s1 => ?_)
  refine g_aload_n C D_Mo_gatherNow_5 rfl 0 rfl ?_
  refine g_getr (ci := 7) C 42 rfl kI7 rfl (by decide) rfl rfl wf_7_112 D_Mo_gatherNow_6 ?_
  refine g_bipush C D_Mo_gatherNow_9 (by decide) ⟨by decide, by decide⟩ ?_
  refine g_dup2 C D_Mo_gatherNow_11 rfl rfl ?_
  refine g_iald C rfl rfl rfl D_Mo_gatherNow_12 ?_
  refine g_iconst C D_Mo_gatherNow_13 ⟨by decide, by decide⟩ ?_
  refine g_iadd C D_Mo_gatherNow_14 (fun a2 => ?_)
  refine g_iast C rfl rfl D_Mo_gatherNow_15 (fun s3 => ?_)
  refine g_aload_n C D_Mo_gatherNow_16 rfl 0 rfl ?_
  refine g_iconst C D_Mo_gatherNow_17 ⟨by decide, by decide⟩ ?_
  refine g_putI (ci := 7) C 46 (jz := 46) rfl rfl kI7 kO7 kN7 rfl (by decide) rfl rfl wf_7_299 D_Mo_gatherNow_18 (fun s4 => ?_)
  refine g_iconst C D_Mo_gatherNow_21 ⟨by decide, by decide⟩ ?_
  refine g_istore_n (L' := [(2, .inl 0), (0, .inr (.inr 0)), (1, .inl v1)]) C D_Mo_gatherNow_22 rfl (by decide) rfl ?_
  refine g_sub [1, 2, 0] rfl ?_
  exact wl_Mo_gatherNow_23 C (fun s5 => by
      refine g_iconst C D_Mo_gatherNow_42 ⟨by decide, by decide⟩ ?_
      refine g_istore_n (L' := [(2, .inl 0), (0, .inr (.inr 0)), (1, .inl v1)]) C D_Mo_gatherNow_43 rfl (by decide) rfl ?_
      refine g_sub [1, 2, 0] rfl ?_
      exact wl_Mo_gatherNow_44 C (fun s6 => by
          refine g_iconst C D_Mo_gatherNow_75 ⟨by decide, by decide⟩ ?_
          refine g_istore_n (L' := [(2, .inl 0), (0, .inr (.inr 0)), (1, .inl v1)]) C D_Mo_gatherNow_76 rfl (by decide) rfl ?_
          refine g_sub [1, 2, 0] rfl ?_
          exact wl_Mo_gatherNow_77 C (fun s7 => by
              exact wj_Mo_gatherNow_118 C _ _) 200 _ _) 200 _ _) 200 _ _
theorem c_Mo_gatherNow {σ : gM} {v1 : Int} {r : gR} (ho : F_Mo_gatherNow σ v1 = some r) (hok : gOk [.inr (.inr 0), .inl v1]) (hin : gIn gctM σ) : gCt gctM Y_Mo_gatherNow prog_9_method_66_code 4 (some .int) 10 241 [.inr (.inr 0), .inl v1] σ r := g_entry (by decide) rfl (Nat.le_of_ble_eq_true rfl) ho hok hin (fun X C => w_Mo_gatherNow C σ v1)
theorem D_Mo_make_0 : decode prog_9_method_57_code 0 = .ok (.iload_n 1, 1) := by decide +kernel
theorem D_Mo_make_1 : decode prog_9_method_57_code 1 = .ok (.iconst 0, 1) := by decide +kernel
theorem D_Mo_make_2 : decode prog_9_method_57_code 2 = .ok (.iconst 1, 1) := by decide +kernel
theorem D_Mo_make_3 : decode prog_9_method_57_code 3 = .ok (.invokestatic 147, 3) := by decide +kernel
theorem D_Mo_make_6 : decode prog_9_method_57_code 6 = .ok (.ifCond .eq 13, 3) := by decide +kernel
theorem D_Mo_make_9 : decode prog_9_method_57_code 9 = .ok (.iload_n 2, 1) := by decide +kernel
theorem D_Mo_make_10 : decode prog_9_method_57_code 10 = .ok (.iconst 1, 1) := by decide +kernel
theorem D_Mo_make_11 : decode prog_9_method_57_code 11 = .ok (.bipush 24, 2) := by decide +kernel
theorem D_Mo_make_13 : decode prog_9_method_57_code 13 = .ok (.invokestatic 147, 3) := by decide +kernel
theorem D_Mo_make_16 : decode prog_9_method_57_code 16 = .ok (.ifCond .ne 5, 3) := by decide +kernel
theorem D_Mo_make_19 : decode prog_9_method_57_code 19 = .ok (.iconst (-1), 1) := by decide +kernel
theorem D_Mo_make_20 : decode prog_9_method_57_code 20 = .ok (.ireturn, 1) := by decide +kernel
theorem D_Mo_make_21 : decode prog_9_method_57_code 21 = .ok (.aload_n 0, 1) := by decide +kernel
theorem D_Mo_make_22 : decode prog_9_method_57_code 22 = .ok (.iload_n 2, 1) := by decide +kernel
theorem D_Mo_make_23 : decode prog_9_method_57_code 23 = .ok (.invokevirtual 288, 3) := by decide +kernel
theorem D_Mo_make_26 : decode prog_9_method_57_code 26 = .ok (.bipush (-4), 2) := by decide +kernel
theorem D_Mo_make_28 : decode prog_9_method_57_code 28 = .ok (.if_icmp .eq 12, 3) := by decide +kernel
theorem D_Mo_make_31 : decode prog_9_method_57_code 31 = .ok (.aload_n 0, 1) := by decide +kernel
theorem D_Mo_make_32 : decode prog_9_method_57_code 32 = .ok (.invokevirtual 290, 3) := by decide +kernel
theorem D_Mo_make_35 : decode prog_9_method_57_code 35 = .ok (.bipush (-4), 2) := by decide +kernel
theorem D_Mo_make_37 : decode prog_9_method_57_code 37 = .ok (.if_icmp .ne 9, 3) := by decide +kernel
theorem D_Mo_make_40 : decode prog_9_method_57_code 40 = .ok (.aload_n 0, 1) := by decide +kernel
theorem D_Mo_make_41 : decode prog_9_method_57_code 41 = .ok (.iconst 0, 1) := by decide +kernel
theorem D_Mo_make_42 : decode prog_9_method_57_code 42 = .ok (.invokevirtual 293, 3) := by decide +kernel
theorem D_Mo_make_45 : decode prog_9_method_57_code 45 = .ok (.pop, 1) := by decide +kernel
theorem D_Mo_make_46 : decode prog_9_method_57_code 46 = .ok (.aload_n 0, 1) := by decide +kernel
theorem D_Mo_make_47 : decode prog_9_method_57_code 47 = .ok (.invokevirtual 290, 3) := by decide +kernel
theorem D_Mo_make_50 : decode prog_9_method_57_code 50 = .ok (.istore 4, 2) := by decide +kernel
theorem D_Mo_make_52 : decode prog_9_method_57_code 52 = .ok (.aload_n 0, 1) := by decide +kernel
theorem D_Mo_make_53 : decode prog_9_method_57_code 53 = .ok (.iload_n 2, 1) := by decide +kernel
theorem D_Mo_make_54 : decode prog_9_method_57_code 54 = .ok (.invokevirtual 288, 3) := by decide +kernel
theorem D_Mo_make_57 : decode prog_9_method_57_code 57 = .ok (.istore 5, 2) := by decide +kernel
theorem D_Mo_make_59 : decode prog_9_method_57_code 59 = .ok (.iload 4, 2) := by decide +kernel
theorem D_Mo_make_61 : decode prog_9_method_57_code 61 = .ok (.bipush (-4), 2) := by decide +kernel
theorem D_Mo_make_63 : decode prog_9_method_57_code 63 = .ok (.if_icmp .eq 10, 3) := by decide +kernel
theorem D_Mo_make_66 : decode prog_9_method_57_code 66 = .ok (.iload 5, 2) := by decide +kernel
theorem D_Mo_make_68 : decode prog_9_method_57_code 68 = .ok (.bipush (-4), 2) := by decide +kernel
theorem D_Mo_make_70 : decode prog_9_method_57_code 70 = .ok (.if_icmp .ne 6, 3) := by decide +kernel
theorem D_Mo_make_73 : decode prog_9_method_57_code 73 = .ok (.bipush (-3), 2) := by decide +kernel
theorem D_Mo_make_75 : decode prog_9_method_57_code 75 = .ok (.ireturn, 1) := by decide +kernel
theorem D_Mo_make_76 : decode prog_9_method_57_code 76 = .ok (.aload_n 0, 1) := by decide +kernel
theorem D_Mo_make_77 : decode prog_9_method_57_code 77 = .ok (.getfield 84, 3) := by decide +kernel
theorem D_Mo_make_80 : decode prog_9_method_57_code 80 = .ok (.iload 4, 2) := by decide +kernel
theorem D_Mo_make_82 : decode prog_9_method_57_code 82 = .ok (.iconst 1, 1) := by decide +kernel
theorem D_Mo_make_83 : decode prog_9_method_57_code 83 = .ok (.bastore, 1) := by decide +kernel
theorem D_Mo_make_84 : decode prog_9_method_57_code 84 = .ok (.aload_n 0, 1) := by decide +kernel
theorem D_Mo_make_85 : decode prog_9_method_57_code 85 = .ok (.getfield 87, 3) := by decide +kernel
theorem D_Mo_make_88 : decode prog_9_method_57_code 88 = .ok (.iload 4, 2) := by decide +kernel
theorem D_Mo_make_90 : decode prog_9_method_57_code 90 = .ok (.iload 5, 2) := by decide +kernel
theorem D_Mo_make_92 : decode prog_9_method_57_code 92 = .ok (.iastore, 1) := by decide +kernel
theorem D_Mo_make_93 : decode prog_9_method_57_code 93 = .ok (.aload_n 0, 1) := by decide +kernel
theorem D_Mo_make_94 : decode prog_9_method_57_code 94 = .ok (.getfield 90, 3) := by decide +kernel
theorem D_Mo_make_97 : decode prog_9_method_57_code 97 = .ok (.iload 4, 2) := by decide +kernel
theorem D_Mo_make_99 : decode prog_9_method_57_code 99 = .ok (.iload_n 2, 1) := by decide +kernel
theorem D_Mo_make_100 : decode prog_9_method_57_code 100 = .ok (.iastore, 1) := by decide +kernel
theorem D_Mo_make_101 : decode prog_9_method_57_code 101 = .ok (.aload_n 0, 1) := by decide +kernel
theorem D_Mo_make_102 : decode prog_9_method_57_code 102 = .ok (.getfield 93, 3) := by decide +kernel
theorem D_Mo_make_105 : decode prog_9_method_57_code 105 = .ok (.iload 4, 2) := by decide +kernel
theorem D_Mo_make_107 : decode prog_9_method_57_code 107 = .ok (.iconst 0, 1) := by decide +kernel
theorem D_Mo_make_108 : decode prog_9_method_57_code 108 = .ok (.iastore, 1) := by decide +kernel
theorem D_Mo_make_109 : decode prog_9_method_57_code 109 = .ok (.aload_n 0, 1) := by decide +kernel
theorem D_Mo_make_110 : decode prog_9_method_57_code 110 = .ok (.getfield 96, 3) := by decide +kernel
theorem D_Mo_make_113 : decode prog_9_method_57_code 113 = .ok (.iload 4, 2) := by decide +kernel
theorem D_Mo_make_115 : decode prog_9_method_57_code 115 = .ok (.iload_n 3, 1) := by decide +kernel
theorem D_Mo_make_116 : decode prog_9_method_57_code 116 = .ok (.bastore, 1) := by decide +kernel
theorem D_Mo_make_117 : decode prog_9_method_57_code 117 = .ok (.aload_n 0, 1) := by decide +kernel
theorem D_Mo_make_118 : decode prog_9_method_57_code 118 = .ok (.getfield 99, 3) := by decide +kernel
theorem D_Mo_make_121 : decode prog_9_method_57_code 121 = .ok (.iload 4, 2) := by decide +kernel
theorem D_Mo_make_123 : decode prog_9_method_57_code 123 = .ok (.lconst 0, 1) := by decide +kernel
theorem D_Mo_make_124 : decode prog_9_method_57_code 124 = .ok (.lastore, 1) := by decide +kernel
theorem D_Mo_make_125 : decode prog_9_method_57_code 125 = .ok (.iconst 0, 1) := by decide +kernel
theorem D_Mo_make_126 : decode prog_9_method_57_code 126 = .ok (.istore 6, 2) := by decide +kernel
theorem D_Mo_make_128 : decode prog_9_method_57_code 128 = .ok (.iload 6, 2) := by decide +kernel
theorem D_Mo_make_130 : decode prog_9_method_57_code 130 = .ok (.iload_n 2, 1) := by decide +kernel
theorem D_Mo_make_131 : decode prog_9_method_57_code 131 = .ok (.if_icmp .ge 20, 3) := by decide +kernel
theorem D_Mo_make_134 : decode prog_9_method_57_code 134 = .ok (.aload_n 0, 1) := by decide +kernel
theorem D_Mo_make_135 : decode prog_9_method_57_code 135 = .ok (.iload_n 1, 1) := by decide +kernel
theorem D_Mo_make_136 : decode prog_9_method_57_code 136 = .ok (.iload 5, 2) := by decide +kernel
theorem D_Mo_make_138 : decode prog_9_method_57_code 138 = .ok (.iload 6, 2) := by decide +kernel
theorem D_Mo_make_140 : decode prog_9_method_57_code 140 = .ok (.iadd, 1) := by decide +kernel
theorem D_Mo_make_141 : decode prog_9_method_57_code 141 = .ok (.iconst 0, 1) := by decide +kernel
theorem D_Mo_make_142 : decode prog_9_method_57_code 142 = .ok (.invokevirtual 266, 3) := by decide +kernel
theorem D_Mo_make_145 : decode prog_9_method_57_code 145 = .ok (.iinc 6 1, 3) := by decide +kernel
theorem D_Mo_make_148 : decode prog_9_method_57_code 148 = .ok (.goto (-20), 3) := by decide +kernel
theorem D_Mo_make_151 : decode prog_9_method_57_code 151 = .ok (.iload 4, 2) := by decide +kernel
theorem D_Mo_make_153 : decode prog_9_method_57_code 153 = .ok (.ireturn, 1) := by decide +kernel
def j_Mo_make_19 (σ : gM) : gO :=
  some (σ, (-1))
set_option maxHeartbeats 4000000 in
theorem wj_Mo_make_19 {X : gX} (C : gC gctM prog_9_method_57_code kR7 7 11 264 (some .int) X) (σ : gM) : GG gctM X 19 [] [] σ (j_Mo_make_19 σ) := by
  unfold j_Mo_make_19
  refine g_iconst C D_Mo_make_19 ⟨by decide, by decide⟩ ?_
  exact g_iret C D_Mo_make_20
def j_Mo_make_73 (σ : gM) : gO :=
  some (σ, (-3))
set_option maxHeartbeats 4000000 in
theorem wj_Mo_make_73 {X : gX} (C : gC gctM prog_9_method_57_code kR7 7 11 264 (some .int) X) (σ : gM) : GG gctM X 73 [] [] σ (j_Mo_make_73 σ) := by
  unfold j_Mo_make_73
  refine g_bipush C D_Mo_make_73 (by decide) ⟨by decide, by decide⟩ ?_
  exact g_iret C D_Mo_make_75
def l_Mo_make_128 (p1 p2 p4 p5 : Int) (rec : gM → Int → gO) (σ : gM) (v6 : Int) : gO :=
  if v6 < p2 then
  (ga (p5 + v6) fun a1 =>
  gk (F_Mo_saveByte σ p1 a1 0) fun s2 _ =>
  ga (v6 + 1) fun a3 =>
  rec s2 a3)
  else
  (some (σ, p4))
set_option maxHeartbeats 4000000 in
theorem wl_Mo_make_128 {X : gX} (C : gC gctM prog_9_method_57_code kR7 7 11 264 (some .int) X) {p1 p2 p4 p5 : Int} : ∀ (n : Nat) (σ : gM) (a0 : Int), GG gctM X 128 [(0, .inr (.inr 0)), (1, .inl p1), (2, .inl p2), (4, .inl p4), (5, .inl p5), (6, .inl a0)] [] σ (gl1 (l_Mo_make_128 p1 p2 p4 p5) n σ a0) := by
  refine gl1_run (P := fun σ a0 o => GG gctM X 128 [(0, .inr (.inr 0)), (1, .inl p1), (2, .inl p2), (4, .inl p4), (5, .inl p5), (6, .inl a0)] [] σ o) (fun _ _ => g_none) (fun rec hrec σ v6 => ?_)
  unfold l_Mo_make_128
  refine g_iload C D_Mo_make_128 5 rfl ?_
  refine g_iload_n C D_Mo_make_130 rfl 2 rfl ?_
  refine g_icmp_ge (tgt := 151) C D_Mo_make_131 (by decide) ?_ ?_
  · refine g_iload C D_Mo_make_151 3 rfl ?_
    exact g_iret C D_Mo_make_153
  · refine g_aload_n C D_Mo_make_134 rfl 0 rfl ?_
    refine g_iload_n C D_Mo_make_135 rfl 1 rfl ?_
    refine g_iload C D_Mo_make_136 4 rfl ?_
    refine g_iload C D_Mo_make_138 5 rfl ?_
    refine g_iadd C D_Mo_make_140 (fun a1 => ?_)
    refine g_iconst C D_Mo_make_141 ⟨by decide, by decide⟩ ?_
    refine g_callVv (ci := 7) C [.inl p1, .inl a1, .inl 0] [] rfl rfl (fun _ h1 h2 h3 => c_Mo_saveByte h1 h2 h3) rfl rfl wc_7_266 (by decide) (Nat.le_of_ble_eq_true rfl) D_Mo_make_142 (fun s2 _ => ?_)
    refine g_iinc (t := 5) (L' := fun z => [(6, .inl z), (0, .inr (.inr 0)), (1, .inl p1), (2, .inl p2), (4, .inl p4), (5, .inl p5)]) C D_Mo_make_145 rfl (by decide) (fun _ => rfl) (fun a3 => ?_)
    refine g_goto (tgt := 128) C D_Mo_make_148 (by decide) ?_
    refine g_sub [1, 2, 3, 4, 5, 0] rfl ?_
    exact hrec _ _
def j_Mo_make_46 (σ : gM) (v1 v2 v3 : Int) : gO :=
  gk (F_Mo_freeNumber σ) fun s1 a2 =>
  gk (F_Mo_roomFor_ s1 v2) fun s3 a4 =>
  if a2 = (-4) then
  (j_Mo_make_73 s3)
  else
  (if a4 = (-4) then
  (j_Mo_make_73 s3)
  else
  (gwb s3 21 40 a2 1 fun s5 =>
  gw s5 22 40 a2 a4 fun s6 =>
  gw s6 23 40 a2 v2 fun s7 =>
  gw s7 24 40 a2 0 fun s8 =>
  gwb s8 25 40 a2 v3 fun s9 =>
  gw s9 26 40 a2 0 fun s10 =>
  gl1 (l_Mo_make_128 v1 v2 a2 a4) 200 s10 0))
set_option maxHeartbeats 4000000 in
theorem wj_Mo_make_46 {X : gX} (C : gC gctM prog_9_method_57_code kR7 7 11 264 (some .int) X) (σ : gM) (v1 v2 v3 : Int) : GG gctM X 46 [(0, .inr (.inr 0)), (1, .inl v1), (2, .inl v2), (3, .inl v3)] [] σ (j_Mo_make_46 σ v1 v2 v3) := by
  unfold j_Mo_make_46
  refine g_aload_n C D_Mo_make_46 rfl 0 rfl ?_
  refine g_callVi (ci := 7) C [] [] (Or.inl rfl) rfl (fun _ h1 h2 h3 => c_Mo_freeNumber h1 h2 h3) rfl rfl wc_7_290 (by decide) (Nat.le_of_ble_eq_true rfl) D_Mo_make_47 (fun s1 a2 => ?_)
  refine g_istore (L' := [(4, .inl a2), (0, .inr (.inr 0)), (1, .inl v1), (2, .inl v2), (3, .inl v3)]) C D_Mo_make_50 (by decide) rfl ?_
  refine g_aload_n C D_Mo_make_52 rfl 1 rfl ?_
  refine g_iload_n C D_Mo_make_53 rfl 3 rfl ?_
  refine g_callVi (ci := 7) C [.inl v2] [] (Or.inl rfl) rfl (fun _ h1 h2 h3 => c_Mo_roomFor_ h1 h2 h3) rfl rfl wc_7_288 (by decide) (Nat.le_of_ble_eq_true rfl) D_Mo_make_54 (fun s3 a4 => ?_)
  refine g_istore (L' := [(5, .inl a4), (4, .inl a2), (0, .inr (.inr 0)), (1, .inl v1), (2, .inl v2), (3, .inl v3)]) C D_Mo_make_57 (by decide) rfl ?_
  refine g_iload C D_Mo_make_59 1 rfl ?_
  refine g_bipush C D_Mo_make_61 (by decide) ⟨by decide, by decide⟩ ?_
  refine g_icmp_eq (tgt := 73) C D_Mo_make_63 (by decide) ?_ ?_
  · refine g_sub [] rfl ?_
    exact wj_Mo_make_73 C _
  · refine g_iload C D_Mo_make_66 0 rfl ?_
    refine g_bipush C D_Mo_make_68 (by decide) ⟨by decide, by decide⟩ ?_
    refine g_icmp_ne (tgt := 76) C D_Mo_make_70 (by decide) ?_ ?_
    · refine g_aload_n C D_Mo_make_76 rfl 2 rfl ?_
      refine g_getr (ci := 7) C 32 rfl kI7 rfl (by decide) rfl rfl wf_7_84 D_Mo_make_77 ?_
      refine g_iload C D_Mo_make_80 1 rfl ?_
      refine g_iconst C D_Mo_make_82 ⟨by decide, by decide⟩ ?_
      refine g_zast C rfl rfl D_Mo_make_83 (fun s5 => ?_)
      refine g_aload_n C D_Mo_make_84 rfl 2 rfl ?_
      refine g_getr (ci := 7) C 33 rfl kI7 rfl (by decide) rfl rfl wf_7_87 D_Mo_make_85 ?_
      refine g_iload C D_Mo_make_88 1 rfl ?_
      refine g_iload C D_Mo_make_90 0 rfl ?_
      refine g_iast C rfl rfl D_Mo_make_92 (fun s6 => ?_)
      refine g_aload_n C D_Mo_make_93 rfl 2 rfl ?_
      refine g_getr (ci := 7) C 34 rfl kI7 rfl (by decide) rfl rfl wf_7_90 D_Mo_make_94 ?_
      refine g_iload C D_Mo_make_97 1 rfl ?_
      refine g_iload_n C D_Mo_make_99 rfl 4 rfl ?_
      refine g_iast C rfl rfl D_Mo_make_100 (fun s7 => ?_)
      refine g_aload_n C D_Mo_make_101 rfl 2 rfl ?_
      refine g_getr (ci := 7) C 35 rfl kI7 rfl (by decide) rfl rfl wf_7_93 D_Mo_make_102 ?_
      refine g_iload C D_Mo_make_105 1 rfl ?_
      refine g_iconst C D_Mo_make_107 ⟨by decide, by decide⟩ ?_
      refine g_iast C rfl rfl D_Mo_make_108 (fun s8 => ?_)
      refine g_aload_n C D_Mo_make_109 rfl 2 rfl ?_
      refine g_getr (ci := 7) C 36 rfl kI7 rfl (by decide) rfl rfl wf_7_96 D_Mo_make_110 ?_
      refine g_iload C D_Mo_make_113 1 rfl ?_
      refine g_iload_n C D_Mo_make_115 rfl 5 rfl ?_
      refine g_zast C rfl rfl D_Mo_make_116 (fun s9 => ?_)
      refine g_aload_n C D_Mo_make_117 rfl 2 rfl ?_
      refine g_getr (ci := 7) C 37 rfl kI7 rfl (by decide) rfl rfl wf_7_99 D_Mo_make_118 ?_
      refine g_iload C D_Mo_make_121 1 rfl ?_
      refine g_lconst (v := 0) C D_Mo_make_123 (by decide) ⟨by decide, by decide⟩ ?_
      refine g_last C rfl rfl rfl D_Mo_make_124 (fun s10 => ?_)
      refine g_iconst C D_Mo_make_125 ⟨by decide, by decide⟩ ?_
      refine g_istore (L' := [(6, .inl 0), (5, .inl a4), (4, .inl a2), (0, .inr (.inr 0)), (1, .inl v1), (2, .inl v2), (3, .inl v3)]) C D_Mo_make_126 (by decide) rfl ?_
      refine g_sub [3, 4, 5, 2, 1, 0] rfl ?_
      exact wl_Mo_make_128 C 200 _ _
    · refine g_sub [] rfl ?_
      exact wj_Mo_make_73 C _
def j_Mo_make_40 (σ : gM) (v1 v2 v3 : Int) : gO :=
  gk (F_Mo_gatherNow σ 0) fun s1 a2 =>
  j_Mo_make_46 s1 v1 v2 v3
set_option maxHeartbeats 4000000 in
theorem wj_Mo_make_40 {X : gX} (C : gC gctM prog_9_method_57_code kR7 7 11 264 (some .int) X) (σ : gM) (v1 v2 v3 : Int) : GG gctM X 40 [(0, .inr (.inr 0)), (1, .inl v1), (2, .inl v2), (3, .inl v3)] [] σ (j_Mo_make_40 σ v1 v2 v3) := by
  unfold j_Mo_make_40
  refine g_aload_n C D_Mo_make_40 rfl 0 rfl ?_
  refine g_iconst C D_Mo_make_41 ⟨by decide, by decide⟩ ?_
  refine g_callVi (ci := 7) C [.inl 0] [] (Or.inl rfl) rfl (fun _ h1 h2 h3 => c_Mo_gatherNow h1 h2 h3) rfl rfl wc_7_293 (by decide) (Nat.le_of_ble_eq_true rfl) D_Mo_make_42 (fun s1 a2 => ?_)
  refine g_pop C D_Mo_make_45 rfl ?_
  exact wj_Mo_make_46 C _ _ _ _
def F_Mo_make (σ : gM) (v1 v2 v3 : Int) : gO :=
  gk (F_Mo_in σ v1 0 1) fun s1 a2 =>
  if a2 = 0 then
  (j_Mo_make_19 s1)
  else
  (gk (F_Mo_in s1 v2 1 24) fun s3 a4 =>
  if a4 = 0 then
  (j_Mo_make_19 s3)
  else
  (gk (F_Mo_roomFor_ s3 v2) fun s5 a6 =>
  if a6 = (-4) then
  (j_Mo_make_40 s5 v1 v2 v3)
  else
  (gk (F_Mo_freeNumber s5) fun s7 a8 =>
  if a8 = (-4) then
  (j_Mo_make_40 s7 v1 v2 v3)
  else
  (j_Mo_make_46 s7 v1 v2 v3))))
set_option maxHeartbeats 4000000 in
theorem w_Mo_make {X : gX} (C : gC gctM prog_9_method_57_code kR7 7 11 264 (some .int) X) (σ : gM) (v1 v2 v3 : Int) : GG gctM X 0 [(0, .inr (.inr 0)), (1, .inl v1), (2, .inl v2), (3, .inl v3)] [] σ (F_Mo_make σ v1 v2 v3) := by
  unfold F_Mo_make
  refine g_iload_n C D_Mo_make_0 rfl 1 rfl ?_
  refine g_iconst C D_Mo_make_1 ⟨by decide, by decide⟩ ?_
  refine g_iconst C D_Mo_make_2 ⟨by decide, by decide⟩ ?_
  refine g_callSi C [.inl v1, .inl 0, .inl 1] [] (Or.inr rfl) rfl (fun _ h1 h2 h3 => c_Mo_in h1 h2 h3) wc_7_147 (by decide) (Nat.le_of_ble_eq_true rfl) D_Mo_make_3 (fun s1 a2 => ?_)
  refine g_if_eq (tgt := 19) C D_Mo_make_6 (by decide) ?_ ?_
  · refine g_sub [] rfl ?_
    exact wj_Mo_make_19 C _
  · refine g_iload_n C D_Mo_make_9 rfl 2 rfl ?_
    refine g_iconst C D_Mo_make_10 ⟨by decide, by decide⟩ ?_
    refine g_bipush C D_Mo_make_11 (by decide) ⟨by decide, by decide⟩ ?_
    refine g_callSi C [.inl v2, .inl 1, .inl 24] [] (Or.inr rfl) rfl (fun _ h1 h2 h3 => c_Mo_in h1 h2 h3) wc_7_147 (by decide) (Nat.le_of_ble_eq_true rfl) D_Mo_make_13 (fun s3 a4 => ?_)
    refine g_if_ne (tgt := 21) C D_Mo_make_16 (by decide) ?_ ?_
    · refine g_aload_n C D_Mo_make_21 rfl 0 rfl ?_
      refine g_iload_n C D_Mo_make_22 rfl 2 rfl ?_
      refine g_callVi (ci := 7) C [.inl v2] [] (Or.inl rfl) rfl (fun _ h1 h2 h3 => c_Mo_roomFor_ h1 h2 h3) rfl rfl wc_7_288 (by decide) (Nat.le_of_ble_eq_true rfl) D_Mo_make_23 (fun s5 a6 => ?_)
      refine g_bipush C D_Mo_make_26 (by decide) ⟨by decide, by decide⟩ ?_
      refine g_icmp_eq (tgt := 40) C D_Mo_make_28 (by decide) ?_ ?_
      · exact wj_Mo_make_40 C _ _ _ _
      · refine g_aload_n C D_Mo_make_31 rfl 0 rfl ?_
        refine g_callVi (ci := 7) C [] [] (Or.inl rfl) rfl (fun _ h1 h2 h3 => c_Mo_freeNumber h1 h2 h3) rfl rfl wc_7_290 (by decide) (Nat.le_of_ble_eq_true rfl) D_Mo_make_32 (fun s7 a8 => ?_)
        refine g_bipush C D_Mo_make_35 (by decide) ⟨by decide, by decide⟩ ?_
        refine g_icmp_ne (tgt := 46) C D_Mo_make_37 (by decide) ?_ ?_
        · exact wj_Mo_make_46 C _ _ _ _
        · exact wj_Mo_make_40 C _ _ _ _
    · refine g_sub [] rfl ?_
      exact wj_Mo_make_19 C _
theorem c_Mo_make {σ : gM} {v1 v2 v3 : Int} {r : gR} (ho : F_Mo_make σ v1 v2 v3 = some r) (hok : gOk [.inr (.inr 0), .inl v1, .inl v2, .inl v3]) (hin : gIn gctM σ) : gCt gctM Y_Mo_make prog_9_method_57_code 7 (some .int) 11 264 [.inr (.inr 0), .inl v1, .inl v2, .inl v3] σ r := g_entry (by decide) rfl (Nat.le_of_ble_eq_true rfl) ho hok hin (fun X C => w_Mo_make C σ v1 v2 v3)
theorem D_Mo_get_0 : decode prog_9_method_59_code 0 = .ok (.iload_n 1, 1) := by decide +kernel
theorem D_Mo_get_1 : decode prog_9_method_59_code 1 = .ok (.iconst 0, 1) := by decide +kernel
theorem D_Mo_get_2 : decode prog_9_method_59_code 2 = .ok (.iconst 1, 1) := by decide +kernel
theorem D_Mo_get_3 : decode prog_9_method_59_code 3 = .ok (.invokestatic 147, 3) := by decide +kernel
theorem D_Mo_get_6 : decode prog_9_method_59_code 6 = .ok (.ifCond .eq 27, 3) := by decide +kernel
theorem D_Mo_get_9 : decode prog_9_method_59_code 9 = .ok (.aload_n 0, 1) := by decide +kernel
theorem D_Mo_get_10 : decode prog_9_method_59_code 10 = .ok (.iload_n 2, 1) := by decide +kernel
theorem D_Mo_get_11 : decode prog_9_method_59_code 11 = .ok (.invokevirtual 296, 3) := by decide +kernel
theorem D_Mo_get_14 : decode prog_9_method_59_code 14 = .ok (.ifCond .eq 19, 3) := by decide +kernel
theorem D_Mo_get_17 : decode prog_9_method_59_code 17 = .ok (.iload_n 3, 1) := by decide +kernel
theorem D_Mo_get_18 : decode prog_9_method_59_code 18 = .ok (.iconst 0, 1) := by decide +kernel
theorem D_Mo_get_19 : decode prog_9_method_59_code 19 = .ok (.aload_n 0, 1) := by decide +kernel
theorem D_Mo_get_20 : decode prog_9_method_59_code 20 = .ok (.getfield 90, 3) := by decide +kernel
theorem D_Mo_get_23 : decode prog_9_method_59_code 23 = .ok (.iload_n 2, 1) := by decide +kernel
theorem D_Mo_get_24 : decode prog_9_method_59_code 24 = .ok (.iaload, 1) := by decide +kernel
theorem D_Mo_get_25 : decode prog_9_method_59_code 25 = .ok (.iconst 1, 1) := by decide +kernel
theorem D_Mo_get_26 : decode prog_9_method_59_code 26 = .ok (.isub, 1) := by decide +kernel
theorem D_Mo_get_27 : decode prog_9_method_59_code 27 = .ok (.invokestatic 147, 3) := by decide +kernel
theorem D_Mo_get_30 : decode prog_9_method_59_code 30 = .ok (.ifCond .ne 5, 3) := by decide +kernel
theorem D_Mo_get_33 : decode prog_9_method_59_code 33 = .ok (.iconst (-1), 1) := by decide +kernel
theorem D_Mo_get_34 : decode prog_9_method_59_code 34 = .ok (.ireturn, 1) := by decide +kernel
theorem D_Mo_get_35 : decode prog_9_method_59_code 35 = .ok (.aload_n 0, 1) := by decide +kernel
theorem D_Mo_get_36 : decode prog_9_method_59_code 36 = .ok (.invokevirtual 262, 3) := by decide +kernel
theorem D_Mo_get_39 : decode prog_9_method_59_code 39 = .ok (.lstore 4, 2) := by decide +kernel
theorem D_Mo_get_41 : decode prog_9_method_59_code 41 = .ok (.aload_n 0, 1) := by decide +kernel
theorem D_Mo_get_42 : decode prog_9_method_59_code 42 = .ok (.iload_n 1, 1) := by decide +kernel
theorem D_Mo_get_43 : decode prog_9_method_59_code 43 = .ok (.aload_n 0, 1) := by decide +kernel
theorem D_Mo_get_44 : decode prog_9_method_59_code 44 = .ok (.getfield 87, 3) := by decide +kernel
theorem D_Mo_get_47 : decode prog_9_method_59_code 47 = .ok (.iload_n 2, 1) := by decide +kernel
theorem D_Mo_get_48 : decode prog_9_method_59_code 48 = .ok (.iaload, 1) := by decide +kernel
theorem D_Mo_get_49 : decode prog_9_method_59_code 49 = .ok (.iload_n 3, 1) := by decide +kernel
theorem D_Mo_get_50 : decode prog_9_method_59_code 50 = .ok (.iadd, 1) := by decide +kernel
theorem D_Mo_get_51 : decode prog_9_method_59_code 51 = .ok (.invokevirtual 259, 3) := by decide +kernel
theorem D_Mo_get_54 : decode prog_9_method_59_code 54 = .ok (.istore 6, 2) := by decide +kernel
theorem D_Mo_get_56 : decode prog_9_method_59_code 56 = .ok (.aload_n 0, 1) := by decide +kernel
theorem D_Mo_get_57 : decode prog_9_method_59_code 57 = .ok (.getfield 112, 3) := by decide +kernel
theorem D_Mo_get_60 : decode prog_9_method_59_code 60 = .ok (.bipush 9, 2) := by decide +kernel
theorem D_Mo_get_62 : decode prog_9_method_59_code 62 = .ok (.dup2, 1) := by decide +kernel
theorem D_Mo_get_63 : decode prog_9_method_59_code 63 = .ok (.iaload, 1) := by decide +kernel
theorem D_Mo_get_64 : decode prog_9_method_59_code 64 = .ok (.iload 6, 2) := by decide +kernel
theorem D_Mo_get_66 : decode prog_9_method_59_code 66 = .ok (.bipush (-5), 2) := by decide +kernel
theorem D_Mo_get_68 : decode prog_9_method_59_code 68 = .ok (.if_icmp .ne 7, 3) := by decide +kernel
theorem D_Mo_get_71 : decode prog_9_method_59_code 71 = .ok (.iconst 1, 1) := by decide +kernel
theorem D_Mo_get_72 : decode prog_9_method_59_code 72 = .ok (.goto 4, 3) := by decide +kernel
theorem D_Mo_get_75 : decode prog_9_method_59_code 75 = .ok (.iconst 0, 1) := by decide +kernel
theorem D_Mo_get_76 : decode prog_9_method_59_code 76 = .ok (.iadd, 1) := by decide +kernel
theorem D_Mo_get_77 : decode prog_9_method_59_code 77 = .ok (.iastore, 1) := by decide +kernel
theorem D_Mo_get_78 : decode prog_9_method_59_code 78 = .ok (.aload_n 0, 1) := by decide +kernel
theorem D_Mo_get_79 : decode prog_9_method_59_code 79 = .ok (.getfield 99, 3) := by decide +kernel
theorem D_Mo_get_82 : decode prog_9_method_59_code 82 = .ok (.iload_n 2, 1) := by decide +kernel
theorem D_Mo_get_83 : decode prog_9_method_59_code 83 = .ok (.dup2, 1) := by decide +kernel
theorem D_Mo_get_84 : decode prog_9_method_59_code 84 = .ok (.laload, 1) := by decide +kernel
theorem D_Mo_get_85 : decode prog_9_method_59_code 85 = .ok (.aload_n 0, 1) := by decide +kernel
theorem D_Mo_get_86 : decode prog_9_method_59_code 86 = .ok (.invokevirtual 262, 3) := by decide +kernel
theorem D_Mo_get_89 : decode prog_9_method_59_code 89 = .ok (.lload 4, 2) := by decide +kernel
theorem D_Mo_get_91 : decode prog_9_method_59_code 91 = .ok (.lsub, 1) := by decide +kernel
theorem D_Mo_get_92 : decode prog_9_method_59_code 92 = .ok (.ladd, 1) := by decide +kernel
theorem D_Mo_get_93 : decode prog_9_method_59_code 93 = .ok (.lastore, 1) := by decide +kernel
theorem D_Mo_get_94 : decode prog_9_method_59_code 94 = .ok (.iload 6, 2) := by decide +kernel
theorem D_Mo_get_96 : decode prog_9_method_59_code 96 = .ok (.ireturn, 1) := by decide +kernel
def j_Mo_get_33 (σ : gM) : gO :=
  some (σ, (-1))
set_option maxHeartbeats 4000000 in
theorem wj_Mo_get_33 {X : gX} (C : gC gctM prog_9_method_59_code kR7 7 9 213 (some .int) X) (σ : gM) : GG gctM X 33 [] [] σ (j_Mo_get_33 σ) := by
  unfold j_Mo_get_33
  refine g_iconst C D_Mo_get_33 ⟨by decide, by decide⟩ ?_
  exact g_iret C D_Mo_get_34
def j_Mo_get_76_30 (σ : gM) (v2 v4 v6 t0 t1 t2 : Int) : gO :=
  ga (t1 + t0) fun a1 =>
  gw σ 30 16 t2 a1 fun s2 =>
  gi v2 40 <|
  gk (F_Mo_allTicks s2) fun s3 a4 =>
  gal (a4 - v4) fun a5 =>
  gal ((s2 26 v2) + a5) fun a6 =>
  gw s3 26 40 v2 a6 fun s7 =>
  some (s7, v6)
set_option maxHeartbeats 4000000 in
theorem wj_Mo_get_76_30 {X : gX} (C : gC gctM prog_9_method_59_code kR7 7 9 213 (some .int) X) (σ : gM) (v2 v4 v6 t0 t1 t2 : Int) : GG gctM X 76 [(0, .inr (.inr 0)), (2, .inl v2), (4, .inr (.inl v4)), (6, .inl v6)] [.inl t0, .inl t1, .inl t2, .inr (.inr 30)] σ (j_Mo_get_76_30 σ v2 v4 v6 t0 t1 t2) := by
  unfold j_Mo_get_76_30
  refine g_iadd C D_Mo_get_76 (fun a1 => ?_)
  refine g_iast C rfl rfl D_Mo_get_77 (fun s2 => ?_)
  refine g_aload_n C D_Mo_get_78 rfl 0 rfl ?_
  refine g_getr (ci := 7) C 37 rfl kI7 rfl (by decide) rfl rfl wf_7_99 D_Mo_get_79 ?_
  refine g_iload_n C D_Mo_get_82 rfl 1 rfl ?_
  refine g_dup2 C D_Mo_get_83 rfl rfl ?_
  refine g_lald C rfl rfl D_Mo_get_84 ?_
  refine g_aload_n C D_Mo_get_85 rfl 0 rfl ?_
  refine g_callVl (ci := 7) C [] [.inr (.inl (s2 26 v2)), .inl v2, .inr (.inr 26)] rfl rfl (fun _ h1 h2 h3 => c_Mo_allTicks h1 h2 h3) rfl rfl wc_7_262 (by decide) (Nat.le_of_ble_eq_true rfl) D_Mo_get_86 (fun s3 a4 => ?_)
  refine g_lload C D_Mo_get_89 2 rfl ?_
  refine g_lsub C D_Mo_get_91 (fun a5 => ?_)
  refine g_ladd C D_Mo_get_92 (fun a6 => ?_)
  refine g_last C rfl rfl rfl D_Mo_get_93 (fun s7 => ?_)
  refine g_iload C D_Mo_get_94 3 rfl ?_
  exact g_iret C D_Mo_get_96
def F_Mo_get (σ : gM) (v1 v2 v3 : Int) : gO :=
  gk (F_Mo_in σ v1 0 1) fun s1 a2 =>
  if a2 = 0 then
  (j_Mo_get_33 s1)
  else
  (gk (F_Mo_isObject s1 v2) fun s3 a4 =>
  if a4 = 0 then
  (j_Mo_get_33 s3)
  else
  (gi v2 40 <|
  ga ((s3 23 v2) - 1) fun a5 =>
  gk (F_Mo_in s3 v3 0 a5) fun s6 a7 =>
  if a7 = 0 then
  (j_Mo_get_33 s6)
  else
  (gk (F_Mo_allTicks s6) fun s8 a9 =>
  gi v2 40 <|
  ga ((s8 22 v2) + v3) fun a10 =>
  gk (F_Mo_loadByte s8 v1 a10) fun s11 a12 =>
  gi 9 16 <|
  if a12 = (-5) then
  (j_Mo_get_76_30 s11 v2 a9 a12 1 (s11 30 9) 9)
  else
  (j_Mo_get_76_30 s11 v2 a9 a12 0 (s11 30 9) 9))))
set_option maxHeartbeats 4000000 in
theorem w_Mo_get {X : gX} (C : gC gctM prog_9_method_59_code kR7 7 9 213 (some .int) X) (σ : gM) (v1 v2 v3 : Int) : GG gctM X 0 [(0, .inr (.inr 0)), (1, .inl v1), (2, .inl v2), (3, .inl v3)] [] σ (F_Mo_get σ v1 v2 v3) := by
  unfold F_Mo_get
  refine g_iload_n C D_Mo_get_0 rfl 1 rfl ?_
  refine g_iconst C D_Mo_get_1 ⟨by decide, by decide⟩ ?_
  refine g_iconst C D_Mo_get_2 ⟨by decide, by decide⟩ ?_
  refine g_callSi C [.inl v1, .inl 0, .inl 1] [] (Or.inr rfl) rfl (fun _ h1 h2 h3 => c_Mo_in h1 h2 h3) wc_7_147 (by decide) (Nat.le_of_ble_eq_true rfl) D_Mo_get_3 (fun s1 a2 => ?_)
  refine g_if_eq (tgt := 33) C D_Mo_get_6 (by decide) ?_ ?_
  · refine g_sub [] rfl ?_
    exact wj_Mo_get_33 C _
  · refine g_aload_n C D_Mo_get_9 rfl 0 rfl ?_
    refine g_iload_n C D_Mo_get_10 rfl 2 rfl ?_
    refine g_callVi (ci := 7) C [.inl v2] [] (Or.inr rfl) rfl (fun _ h1 h2 h3 => c_Mo_isObject h1 h2 h3) rfl rfl wc_7_296 (by decide) (Nat.le_of_ble_eq_true rfl) D_Mo_get_11 (fun s3 a4 => ?_)
    refine g_if_eq (tgt := 33) C D_Mo_get_14 (by decide) ?_ ?_
    · refine g_sub [] rfl ?_
      exact wj_Mo_get_33 C _
    · refine g_iload_n C D_Mo_get_17 rfl 3 rfl ?_
      refine g_iconst C D_Mo_get_18 ⟨by decide, by decide⟩ ?_
      refine g_aload_n C D_Mo_get_19 rfl 0 rfl ?_
      refine g_getr (ci := 7) C 34 rfl kI7 rfl (by decide) rfl rfl wf_7_90 D_Mo_get_20 ?_
      refine g_iload_n C D_Mo_get_23 rfl 2 rfl ?_
      refine g_iald C rfl rfl rfl D_Mo_get_24 ?_
      refine g_iconst C D_Mo_get_25 ⟨by decide, by decide⟩ ?_
      refine g_isub C D_Mo_get_26 (fun a5 => ?_)
      refine g_callSi C [.inl v3, .inl 0, .inl a5] [] (Or.inr rfl) rfl (fun _ h1 h2 h3 => c_Mo_in h1 h2 h3) wc_7_147 (by decide) (Nat.le_of_ble_eq_true rfl) D_Mo_get_27 (fun s6 a7 => ?_)
      refine g_if_ne (tgt := 35) C D_Mo_get_30 (by decide) ?_ ?_
      · refine g_aload_n C D_Mo_get_35 rfl 0 rfl ?_
        refine g_callVl (ci := 7) C [] [] rfl rfl (fun _ h1 h2 h3 => c_Mo_allTicks h1 h2 h3) rfl rfl wc_7_262 (by decide) (Nat.le_of_ble_eq_true rfl) D_Mo_get_36 (fun s8 a9 => ?_)
        refine g_lstore (L' := [(4, .inr (.inl a9)), (0, .inr (.inr 0)), (1, .inl v1), (2, .inl v2), (3, .inl v3)]) C D_Mo_get_39 (by decide) rfl ?_
        refine g_aload_n C D_Mo_get_41 rfl 1 rfl ?_
        refine g_iload_n C D_Mo_get_42 rfl 2 rfl ?_
        refine g_aload_n C D_Mo_get_43 rfl 1 rfl ?_
        refine g_getr (ci := 7) C 33 rfl kI7 rfl (by decide) rfl rfl wf_7_87 D_Mo_get_44 ?_
        refine g_iload_n C D_Mo_get_47 rfl 3 rfl ?_
        refine g_iald C rfl rfl rfl D_Mo_get_48 ?_
        refine g_iload_n C D_Mo_get_49 rfl 4 rfl ?_
        refine g_iadd C D_Mo_get_50 (fun a10 => ?_)
        refine g_callVi (ci := 7) C [.inl v1, .inl a10] [] (Or.inl rfl) rfl (fun _ h1 h2 h3 => c_Mo_loadByte h1 h2 h3) rfl rfl wc_7_259 (by decide) (Nat.le_of_ble_eq_true rfl) D_Mo_get_51 (fun s11 a12 => ?_)
        refine g_istore (L' := [(6, .inl a12), (4, .inr (.inl a9)), (0, .inr (.inr 0)), (1, .inl v1), (2, .inl v2), (3, .inl v3)]) C D_Mo_get_54 (by decide) rfl ?_
        refine g_aload_n C D_Mo_get_56 rfl 2 rfl ?_
        refine g_getr (ci := 7) C 42 rfl kI7 rfl (by decide) rfl rfl wf_7_112 D_Mo_get_57 ?_
        refine g_bipush C D_Mo_get_60 (by decide) ⟨by decide, by decide⟩ ?_
        refine g_dup2 C D_Mo_get_62 rfl rfl ?_
        refine g_iald C rfl rfl rfl D_Mo_get_63 ?_
        refine g_iload C D_Mo_get_64 0 rfl ?_
        refine g_bipush C D_Mo_get_66 (by decide) ⟨by decide, by decide⟩ ?_
        refine g_icmp_ne (tgt := 75) C D_Mo_get_68 (by decide) ?_ ?_
        · refine g_iconst C D_Mo_get_75 ⟨by decide, by decide⟩ ?_
          refine g_sub [2, 4, 1, 0] rfl ?_
          exact wj_Mo_get_76_30 C _ _ _ _ _ _ _
        · refine g_iconst C D_Mo_get_71 ⟨by decide, by decide⟩ ?_
          refine g_goto (tgt := 76) C D_Mo_get_72 (by decide) ?_
          refine g_sub [2, 4, 1, 0] rfl ?_
          exact wj_Mo_get_76_30 C _ _ _ _ _ _ _
      · refine g_sub [] rfl ?_
        exact wj_Mo_get_33 C _
theorem c_Mo_get {σ : gM} {v1 v2 v3 : Int} {r : gR} (ho : F_Mo_get σ v1 v2 v3 = some r) (hok : gOk [.inr (.inr 0), .inl v1, .inl v2, .inl v3]) (hin : gIn gctM σ) : gCt gctM Y_Mo_get prog_9_method_59_code 7 (some .int) 9 213 [.inr (.inr 0), .inl v1, .inl v2, .inl v3] σ r := g_entry (by decide) rfl (Nat.le_of_ble_eq_true rfl) ho hok hin (fun X C => w_Mo_get C σ v1 v2 v3)
