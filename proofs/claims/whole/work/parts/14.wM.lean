/-! by program: functions of the methods and their walks: Mo_in, Mo_tick, Mo_allTicks, Mo_placeOf, Mo_sign, Mo_odd, Mo_code, Mo_value, Mo_mend, Mo_readCell, Mo_limit, Mo_flip, Mo_refresh, Mo_cell, Mo_open, Mo_ones, Mo_patterns, Mo_wearOut, Mo_openFor, Mo_find, Mo_writeLine, Mo_store, Mo_besideMany, Mo_playBeside, Mo_causeOf, Mo_roomFor -/
theorem D_Mo_in_0 : decode prog_9_method_2_code 0 = .ok (.iload_n 0, 1) := by decide +kernel
theorem D_Mo_in_1 : decode prog_9_method_2_code 1 = .ok (.iload_n 1, 1) := by decide +kernel
theorem D_Mo_in_2 : decode prog_9_method_2_code 2 = .ok (.if_icmp .lt 12, 3) := by decide +kernel
theorem D_Mo_in_5 : decode prog_9_method_2_code 5 = .ok (.iload_n 0, 1) := by decide +kernel
theorem D_Mo_in_6 : decode prog_9_method_2_code 6 = .ok (.iload_n 2, 1) := by decide +kernel
theorem D_Mo_in_7 : decode prog_9_method_2_code 7 = .ok (.if_icmp .gt 7, 3) := by decide +kernel
theorem D_Mo_in_10 : decode prog_9_method_2_code 10 = .ok (.iconst 1, 1) := by decide +kernel
theorem D_Mo_in_11 : decode prog_9_method_2_code 11 = .ok (.goto 4, 3) := by decide +kernel
theorem D_Mo_in_14 : decode prog_9_method_2_code 14 = .ok (.iconst 0, 1) := by decide +kernel
theorem D_Mo_in_15 : decode prog_9_method_2_code 15 = .ok (.ireturn, 1) := by decide +kernel
def j_Mo_in_15 (σ : gM) (t0 : Int) : gO :=
  gb t0 (some (σ, t0))
set_option maxHeartbeats 4000000 in
theorem wj_Mo_in_15 {X : gX} (C : gC gctM prog_9_method_2_code kR7 3 0 0 (some .boolean) X) (σ : gM) (t0 : Int) : GG gctM X 15 [] [.inl t0] σ (j_Mo_in_15 σ t0) := by
  unfold j_Mo_in_15
  exact g_zret C D_Mo_in_15
def j_Mo_in_14 (σ : gM) : gO :=
  j_Mo_in_15 σ 0
set_option maxHeartbeats 4000000 in
theorem wj_Mo_in_14 {X : gX} (C : gC gctM prog_9_method_2_code kR7 3 0 0 (some .boolean) X) (σ : gM) : GG gctM X 14 [] [] σ (j_Mo_in_14 σ) := by
  unfold j_Mo_in_14
  refine g_iconst C D_Mo_in_14 ⟨by decide, by decide⟩ ?_
  exact wj_Mo_in_15 C _ _
def F_Mo_in (σ : gM) (v0 v1 v2 : Int) : gO :=
  if v0 < v1 then
  (j_Mo_in_14 σ)
  else
  (if v2 < v0 then
  (j_Mo_in_14 σ)
  else
  (j_Mo_in_15 σ 1))
set_option maxHeartbeats 4000000 in
theorem w_Mo_in {X : gX} (C : gC gctM prog_9_method_2_code kR7 3 0 0 (some .boolean) X) (σ : gM) (v0 v1 v2 : Int) : GG gctM X 0 [(0, .inl v0), (1, .inl v1), (2, .inl v2)] [] σ (F_Mo_in σ v0 v1 v2) := by
  unfold F_Mo_in
  refine g_iload_n C D_Mo_in_0 rfl 0 rfl ?_
  refine g_iload_n C D_Mo_in_1 rfl 1 rfl ?_
  refine g_icmp_lt (tgt := 14) C D_Mo_in_2 (by decide) ?_ ?_
  · refine g_sub [] rfl ?_
    exact wj_Mo_in_14 C _
  · refine g_iload_n C D_Mo_in_5 rfl 0 rfl ?_
    refine g_iload_n C D_Mo_in_6 rfl 2 rfl ?_
    refine g_icmp_gt (tgt := 14) C D_Mo_in_7 (by decide) ?_ ?_
    · refine g_sub [] rfl ?_
      exact wj_Mo_in_14 C _
    · refine g_iconst C D_Mo_in_10 ⟨by decide, by decide⟩ ?_
      refine g_goto (tgt := 15) C D_Mo_in_11 (by decide) ?_
      refine g_sub [] rfl ?_
      exact wj_Mo_in_15 C _ _
theorem c_Mo_in {σ : gM} {v0 v1 v2 : Int} {r : gR} (ho : F_Mo_in σ v0 v1 v2 = some r) (hok : gOk [.inl v0, .inl v1, .inl v2]) (hin : gIn gctM σ) : gCt gctM Y_Mo_in prog_9_method_2_code 3 (some .boolean) 0 0 [.inl v0, .inl v1, .inl v2] σ r := g_entry (by decide) rfl (Nat.le_of_ble_eq_true rfl) ho hok hin (fun X C => w_Mo_in C σ v0 v1 v2)
theorem D_Mo_tick_0 : decode prog_9_method_3_code 0 = .ok (.aload_n 0, 1) := by decide +kernel
theorem D_Mo_tick_1 : decode prog_9_method_3_code 1 = .ok (.getfield 109, 3) := by decide +kernel
theorem D_Mo_tick_4 : decode prog_9_method_3_code 4 = .ok (.aload_n 0, 1) := by decide +kernel
theorem D_Mo_tick_5 : decode prog_9_method_3_code 5 = .ok (.getfield 124, 3) := by decide +kernel
theorem D_Mo_tick_8 : decode prog_9_method_3_code 8 = .ok (.ifCond .eq 8, 3) := by decide +kernel
theorem D_Mo_tick_11 : decode prog_9_method_3_code 11 = .ok (.bipush 7, 2) := by decide +kernel
theorem D_Mo_tick_13 : decode prog_9_method_3_code 13 = .ok (.goto 4, 3) := by decide +kernel
theorem D_Mo_tick_16 : decode prog_9_method_3_code 16 = .ok (.iload_n 1, 1) := by decide +kernel
theorem D_Mo_tick_17 : decode prog_9_method_3_code 17 = .ok (.dup2, 1) := by decide +kernel
theorem D_Mo_tick_18 : decode prog_9_method_3_code 18 = .ok (.laload, 1) := by decide +kernel
theorem D_Mo_tick_19 : decode prog_9_method_3_code 19 = .ok (.iload_n 2, 1) := by decide +kernel
theorem D_Mo_tick_20 : decode prog_9_method_3_code 20 = .ok (.i2l, 1) := by decide +kernel
theorem D_Mo_tick_21 : decode prog_9_method_3_code 21 = .ok (.ladd, 1) := by decide +kernel
theorem D_Mo_tick_22 : decode prog_9_method_3_code 22 = .ok (.lastore, 1) := by decide +kernel
theorem D_Mo_tick_23 : decode prog_9_method_3_code 23 = .ok (.return_, 1) := by decide +kernel
def j_Mo_tick_17_29 (σ : gM) (v2 t0 : Int) : gO :=
  gi t0 8 <|
  gal ((σ 29 t0) + v2) fun a1 =>
  gw σ 29 8 t0 a1 fun s2 =>
  some (s2, 0)
set_option maxHeartbeats 4000000 in
theorem wj_Mo_tick_17_29 {X : gX} (C : gC gctM prog_9_method_3_code kR7 3 0 0 (none) X) (σ : gM) (v2 t0 : Int) : GG gctM X 17 [(2, .inl v2)] [.inl t0, .inr (.inr 29)] σ (j_Mo_tick_17_29 σ v2 t0) := by
  unfold j_Mo_tick_17_29
  refine g_dup2 C D_Mo_tick_17 rfl rfl ?_
  refine g_lald C rfl rfl D_Mo_tick_18 ?_
  refine g_iload_n C D_Mo_tick_19 rfl 0 rfl ?_
  refine g_i2l C D_Mo_tick_20 ?_
  refine g_ladd C D_Mo_tick_21 (fun a1 => ?_)
  refine g_last C rfl rfl rfl D_Mo_tick_22 (fun s2 => ?_)
  exact g_vret C D_Mo_tick_23
def F_Mo_tick (σ : gM) (v1 v2 : Int) : gO :=
  if (σ 0 40) = 0 then
  (j_Mo_tick_17_29 σ v2 v1)
  else
  (j_Mo_tick_17_29 σ v2 7)
set_option maxHeartbeats 4000000 in
theorem w_Mo_tick {X : gX} (C : gC gctM prog_9_method_3_code kR7 3 0 0 (none) X) (σ : gM) (v1 v2 : Int) : GG gctM X 0 [(0, .inr (.inr 0)), (1, .inl v1), (2, .inl v2)] [] σ (F_Mo_tick σ v1 v2) := by
  unfold F_Mo_tick
  refine g_aload_n C D_Mo_tick_0 rfl 0 rfl ?_
  refine g_getr (ci := 7) C 41 rfl kI7 rfl (by decide) rfl rfl wf_7_109 D_Mo_tick_1 ?_
  refine g_aload_n C D_Mo_tick_4 rfl 0 rfl ?_
  refine g_get (ci := 7) C 40 (jz := 40) rfl rfl kI7 rfl (by decide) rfl rfl wf_7_124 rfl D_Mo_tick_5 ?_
  refine g_if_eq (tgt := 16) C D_Mo_tick_8 (by decide) ?_ ?_
  · refine g_iload_n C D_Mo_tick_16 rfl 1 rfl ?_
    refine g_sub [2] rfl ?_
    exact wj_Mo_tick_17_29 C _ _ _
  · refine g_bipush C D_Mo_tick_11 (by decide) ⟨by decide, by decide⟩ ?_
    refine g_goto (tgt := 17) C D_Mo_tick_13 (by decide) ?_
    refine g_sub [2] rfl ?_
    exact wj_Mo_tick_17_29 C _ _ _
theorem c_Mo_tick {σ : gM} {v1 v2 : Int} {r : gR} (ho : F_Mo_tick σ v1 v2 = some r) (hok : gOk [.inr (.inr 0), .inl v1, .inl v2]) (hin : gIn gctM σ) : gCt gctM Y_Mo_tick prog_9_method_3_code 3 (none) 0 0 [.inr (.inr 0), .inl v1, .inl v2] σ r := g_entry (by decide) rfl (Nat.le_of_ble_eq_true rfl) ho hok hin (fun X C => w_Mo_tick C σ v1 v2)
theorem D_Mo_allTicks_0 : decode prog_9_method_4_code 0 = .ok (.lconst 0, 1) := by decide +kernel
theorem D_Mo_allTicks_1 : decode prog_9_method_4_code 1 = .ok (.lstore_n 1, 1) := by decide +kernel
theorem D_Mo_allTicks_2 : decode prog_9_method_4_code 2 = .ok (.iconst 0, 1) := by decide +kernel
theorem D_Mo_allTicks_3 : decode prog_9_method_4_code 3 = .ok (.istore_n 3, 1) := by decide +kernel
theorem D_Mo_allTicks_4 : decode prog_9_method_4_code 4 = .ok (.iload_n 3, 1) := by decide +kernel
theorem D_Mo_allTicks_5 : decode prog_9_method_4_code 5 = .ok (.bipush 8, 2) := by decide +kernel
theorem D_Mo_allTicks_7 : decode prog_9_method_4_code 7 = .ok (.if_icmp .ge 18, 3) := by decide +kernel
theorem D_Mo_allTicks_10 : decode prog_9_method_4_code 10 = .ok (.lload_n 1, 1) := by decide +kernel
theorem D_Mo_allTicks_11 : decode prog_9_method_4_code 11 = .ok (.aload_n 0, 1) := by decide +kernel
theorem D_Mo_allTicks_12 : decode prog_9_method_4_code 12 = .ok (.getfield 109, 3) := by decide +kernel
theorem D_Mo_allTicks_15 : decode prog_9_method_4_code 15 = .ok (.iload_n 3, 1) := by decide +kernel
theorem D_Mo_allTicks_16 : decode prog_9_method_4_code 16 = .ok (.laload, 1) := by decide +kernel
theorem D_Mo_allTicks_17 : decode prog_9_method_4_code 17 = .ok (.ladd, 1) := by decide +kernel
theorem D_Mo_allTicks_18 : decode prog_9_method_4_code 18 = .ok (.lstore_n 1, 1) := by decide +kernel
theorem D_Mo_allTicks_19 : decode prog_9_method_4_code 19 = .ok (.iinc 3 1, 3) := by decide +kernel
theorem D_Mo_allTicks_22 : decode prog_9_method_4_code 22 = .ok (.goto (-18), 3) := by decide +kernel
theorem D_Mo_allTicks_25 : decode prog_9_method_4_code 25 = .ok (.lload_n 1, 1) := by decide +kernel
theorem D_Mo_allTicks_26 : decode prog_9_method_4_code 26 = .ok (.lreturn, 1) := by decide +kernel
def l_Mo_allTicks_4 (rec : gM → Int → Int → gO) (σ : gM) (v1 v3 : Int) : gO :=
  if v3 < 8 then
  (gi v3 8 <|
  gal (v1 + (σ 29 v3)) fun a1 =>
  ga (v3 + 1) fun a2 =>
  rec σ a1 a2)
  else
  (some (σ, v1))
set_option maxHeartbeats 4000000 in
theorem wl_Mo_allTicks_4 {X : gX} (C : gC gctM prog_9_method_4_code kR7 4 0 0 (some .long) X) : ∀ (n : Nat) (σ : gM) (a0 a1 : Int), GG gctM X 4 [(0, .inr (.inr 0)), (1, .inr (.inl a0)), (3, .inl a1)] [] σ (gl2 (l_Mo_allTicks_4) n σ a0 a1) := by
  refine gl2_run (P := fun σ a0 a1 o => GG gctM X 4 [(0, .inr (.inr 0)), (1, .inr (.inl a0)), (3, .inl a1)] [] σ o) (fun _ _ _ => g_none) (fun rec hrec σ v1 v3 => ?_)
  unfold l_Mo_allTicks_4
  refine g_iload_n C D_Mo_allTicks_4 rfl 2 rfl ?_
  refine g_bipush C D_Mo_allTicks_5 (by decide) ⟨by decide, by decide⟩ ?_
  refine g_icmp_ge (tgt := 25) C D_Mo_allTicks_7 (by decide) ?_ ?_
  · refine g_lload_n C D_Mo_allTicks_25 rfl 1 rfl ?_
    exact g_lret C D_Mo_allTicks_26
  · refine g_lload_n C D_Mo_allTicks_10 rfl 1 rfl ?_
    refine g_aload_n C D_Mo_allTicks_11 rfl 0 rfl ?_
    refine g_getr (ci := 7) C 41 rfl kI7 rfl (by decide) rfl rfl wf_7_109 D_Mo_allTicks_12 ?_
    refine g_iload_n C D_Mo_allTicks_15 rfl 2 rfl ?_
    refine g_lald C rfl rfl D_Mo_allTicks_16 ?_
    refine g_ladd C D_Mo_allTicks_17 (fun a1 => ?_)
    refine g_lstore_n (L' := [(1, .inr (.inl a1)), (0, .inr (.inr 0)), (3, .inl v3)]) C D_Mo_allTicks_18 rfl (by decide) rfl ?_
    refine g_iinc (t := 2) (L' := fun z => [(3, .inl z), (1, .inr (.inl a1)), (0, .inr (.inr 0))]) C D_Mo_allTicks_19 rfl (by decide) (fun _ => rfl) (fun a2 => ?_)
    refine g_goto (tgt := 4) C D_Mo_allTicks_22 (by decide) ?_
    refine g_sub [2, 1, 0] rfl ?_
    exact hrec _ _ _
def F_Mo_allTicks (σ : gM) : gO :=
  gl2 (l_Mo_allTicks_4) 200 σ 0 0
set_option maxHeartbeats 4000000 in
theorem w_Mo_allTicks {X : gX} (C : gC gctM prog_9_method_4_code kR7 4 0 0 (some .long) X) (σ : gM) : GG gctM X 0 [(0, .inr (.inr 0))] [] σ (F_Mo_allTicks σ) := by
  unfold F_Mo_allTicks
  refine g_lconst (v := 0) C D_Mo_allTicks_0 (by decide) ⟨by decide, by decide⟩ ?_
  refine g_lstore_n (L' := [(1, .inr (.inl 0)), (0, .inr (.inr 0))]) C D_Mo_allTicks_1 rfl (by decide) rfl ?_
  refine g_iconst C D_Mo_allTicks_2 ⟨by decide, by decide⟩ ?_
  refine g_istore_n (L' := [(3, .inl 0), (1, .inr (.inl 0)), (0, .inr (.inr 0))]) C D_Mo_allTicks_3 rfl (by decide) rfl ?_
  refine g_sub [2, 1, 0] rfl ?_
  exact wl_Mo_allTicks_4 C 200 _ _ _
theorem c_Mo_allTicks {σ : gM} {r : gR} (ho : F_Mo_allTicks σ = some r) (hok : gOk [.inr (.inr 0)]) (hin : gIn gctM σ) : gCt gctM Y_Mo_allTicks prog_9_method_4_code 4 (some .long) 0 0 [.inr (.inr 0)] σ r := g_entry (by decide) rfl (Nat.le_of_ble_eq_true rfl) ho hok hin (fun X C => w_Mo_allTicks C σ)
theorem D_Mo_placeOf_0 : decode prog_9_method_5_code 0 = .ok (.iload_n 0, 1) := by decide +kernel
theorem D_Mo_placeOf_1 : decode prog_9_method_5_code 1 = .ok (.ifCond .ne 7, 3) := by decide +kernel
theorem D_Mo_placeOf_4 : decode prog_9_method_5_code 4 = .ok (.iconst 3, 1) := by decide +kernel
theorem D_Mo_placeOf_5 : decode prog_9_method_5_code 5 = .ok (.goto 17, 3) := by decide +kernel
theorem D_Mo_placeOf_8 : decode prog_9_method_5_code 8 = .ok (.iload_n 0, 1) := by decide +kernel
theorem D_Mo_placeOf_9 : decode prog_9_method_5_code 9 = .ok (.iconst 4, 1) := by decide +kernel
theorem D_Mo_placeOf_10 : decode prog_9_method_5_code 10 = .ok (.if_icmp .ge 9, 3) := by decide +kernel
theorem D_Mo_placeOf_13 : decode prog_9_method_5_code 13 = .ok (.iload_n 0, 1) := by decide +kernel
theorem D_Mo_placeOf_14 : decode prog_9_method_5_code 14 = .ok (.iconst 4, 1) := by decide +kernel
theorem D_Mo_placeOf_15 : decode prog_9_method_5_code 15 = .ok (.iadd, 1) := by decide +kernel
theorem D_Mo_placeOf_16 : decode prog_9_method_5_code 16 = .ok (.goto 6, 3) := by decide +kernel
theorem D_Mo_placeOf_19 : decode prog_9_method_5_code 19 = .ok (.iload_n 0, 1) := by decide +kernel
theorem D_Mo_placeOf_20 : decode prog_9_method_5_code 20 = .ok (.iconst 5, 1) := by decide +kernel
theorem D_Mo_placeOf_21 : decode prog_9_method_5_code 21 = .ok (.iadd, 1) := by decide +kernel
theorem D_Mo_placeOf_22 : decode prog_9_method_5_code 22 = .ok (.ireturn, 1) := by decide +kernel
def j_Mo_placeOf_22 (σ : gM) (t0 : Int) : gO :=
  some (σ, t0)
set_option maxHeartbeats 4000000 in
theorem wj_Mo_placeOf_22 {X : gX} (C : gC gctM prog_9_method_5_code kR7 1 0 0 (some .int) X) (σ : gM) (t0 : Int) : GG gctM X 22 [] [.inl t0] σ (j_Mo_placeOf_22 σ t0) := by
  unfold j_Mo_placeOf_22
  exact g_iret C D_Mo_placeOf_22
def F_Mo_placeOf (σ : gM) (v0 : Int) : gO :=
  if v0 = 0 then
  (j_Mo_placeOf_22 σ 3)
  else
  (if v0 < 4 then
  (ga (v0 + 4) fun a2 =>
  j_Mo_placeOf_22 σ a2)
  else
  (ga (v0 + 5) fun a1 =>
  j_Mo_placeOf_22 σ a1))
set_option maxHeartbeats 4000000 in
theorem w_Mo_placeOf {X : gX} (C : gC gctM prog_9_method_5_code kR7 1 0 0 (some .int) X) (σ : gM) (v0 : Int) : GG gctM X 0 [(0, .inl v0)] [] σ (F_Mo_placeOf σ v0) := by
  unfold F_Mo_placeOf
  refine g_iload_n C D_Mo_placeOf_0 rfl 0 rfl ?_
  refine g_if_ne (tgt := 8) C D_Mo_placeOf_1 (by decide) ?_ ?_
  · refine g_iload_n C D_Mo_placeOf_8 rfl 0 rfl ?_
    refine g_iconst C D_Mo_placeOf_9 ⟨by decide, by decide⟩ ?_
    refine g_icmp_ge (tgt := 19) C D_Mo_placeOf_10 (by decide) ?_ ?_
    · refine g_iload_n C D_Mo_placeOf_19 rfl 0 rfl ?_
      refine g_iconst C D_Mo_placeOf_20 ⟨by decide, by decide⟩ ?_
      refine g_iadd C D_Mo_placeOf_21 (fun a1 => ?_)
      refine g_sub [] rfl ?_
      exact wj_Mo_placeOf_22 C _ _
    · refine g_iload_n C D_Mo_placeOf_13 rfl 0 rfl ?_
      refine g_iconst C D_Mo_placeOf_14 ⟨by decide, by decide⟩ ?_
      refine g_iadd C D_Mo_placeOf_15 (fun a2 => ?_)
      refine g_goto (tgt := 22) C D_Mo_placeOf_16 (by decide) ?_
      refine g_sub [] rfl ?_
      exact wj_Mo_placeOf_22 C _ _
  · refine g_iconst C D_Mo_placeOf_4 ⟨by decide, by decide⟩ ?_
    refine g_goto (tgt := 22) C D_Mo_placeOf_5 (by decide) ?_
    refine g_sub [] rfl ?_
    exact wj_Mo_placeOf_22 C _ _
theorem c_Mo_placeOf {σ : gM} {v0 : Int} {r : gR} (ho : F_Mo_placeOf σ v0 = some r) (hok : gOk [.inl v0]) (hin : gIn gctM σ) : gCt gctM Y_Mo_placeOf prog_9_method_5_code 1 (some .int) 0 0 [.inl v0] σ r := g_entry (by decide) rfl (Nat.le_of_ble_eq_true rfl) ho hok hin (fun X C => w_Mo_placeOf C σ v0)
theorem D_Mo_sign_0 : decode prog_9_method_6_code 0 = .ok (.iconst 0, 1) := by decide +kernel
theorem D_Mo_sign_1 : decode prog_9_method_6_code 1 = .ok (.istore_n 1, 1) := by decide +kernel
theorem D_Mo_sign_2 : decode prog_9_method_6_code 2 = .ok (.iconst 1, 1) := by decide +kernel
theorem D_Mo_sign_3 : decode prog_9_method_6_code 3 = .ok (.istore_n 2, 1) := by decide +kernel
theorem D_Mo_sign_4 : decode prog_9_method_6_code 4 = .ok (.iload_n 2, 1) := by decide +kernel
theorem D_Mo_sign_5 : decode prog_9_method_6_code 5 = .ok (.bipush 13, 2) := by decide +kernel
theorem D_Mo_sign_7 : decode prog_9_method_6_code 7 = .ok (.if_icmp .ge 26, 3) := by decide +kernel
theorem D_Mo_sign_10 : decode prog_9_method_6_code 10 = .ok (.iload_n 1, 1) := by decide +kernel
theorem D_Mo_sign_11 : decode prog_9_method_6_code 11 = .ok (.iload_n 0, 1) := by decide +kernel
theorem D_Mo_sign_12 : decode prog_9_method_6_code 12 = .ok (.iload_n 2, 1) := by decide +kernel
theorem D_Mo_sign_13 : decode prog_9_method_6_code 13 = .ok (.ishr, 1) := by decide +kernel
theorem D_Mo_sign_14 : decode prog_9_method_6_code 14 = .ok (.iconst 1, 1) := by decide +kernel
theorem D_Mo_sign_15 : decode prog_9_method_6_code 15 = .ok (.iand, 1) := by decide +kernel
theorem D_Mo_sign_16 : decode prog_9_method_6_code 16 = .ok (.iconst 1, 1) := by decide +kernel
theorem D_Mo_sign_17 : decode prog_9_method_6_code 17 = .ok (.if_icmp .ne 7, 3) := by decide +kernel
theorem D_Mo_sign_20 : decode prog_9_method_6_code 20 = .ok (.iload_n 2, 1) := by decide +kernel
theorem D_Mo_sign_21 : decode prog_9_method_6_code 21 = .ok (.goto 4, 3) := by decide +kernel
theorem D_Mo_sign_24 : decode prog_9_method_6_code 24 = .ok (.iconst 0, 1) := by decide +kernel
theorem D_Mo_sign_25 : decode prog_9_method_6_code 25 = .ok (.ixor, 1) := by decide +kernel
theorem D_Mo_sign_26 : decode prog_9_method_6_code 26 = .ok (.istore_n 1, 1) := by decide +kernel
theorem D_Mo_sign_27 : decode prog_9_method_6_code 27 = .ok (.iinc 2 1, 3) := by decide +kernel
theorem D_Mo_sign_30 : decode prog_9_method_6_code 30 = .ok (.goto (-26), 3) := by decide +kernel
theorem D_Mo_sign_33 : decode prog_9_method_6_code 33 = .ok (.iload_n 1, 1) := by decide +kernel
theorem D_Mo_sign_34 : decode prog_9_method_6_code 34 = .ok (.ireturn, 1) := by decide +kernel
def j_Mo_sign_25 (rec : gM → Int → Int → gO) (σ : gM) (p0 v2 t0 t1 : Int) : gO :=
  gv (gXor t1 t0) fun a1 =>
  ga (v2 + 1) fun a2 =>
  rec σ a1 a2
set_option maxHeartbeats 4000000 in
theorem wj_Mo_sign_25 {X : gX} (C : gC gctM prog_9_method_6_code kR7 3 0 0 (some .int) X) {p0 : Int} {rec : gM → Int → Int → gO} (hrec : ∀ (σ : gM) (a0 a1 : Int), GG gctM X 4 [(0, .inl p0), (1, .inl a0), (2, .inl a1)] [] σ (rec σ a0 a1)) (σ : gM) (v2 t0 t1 : Int) : GG gctM X 25 [(0, .inl p0), (2, .inl v2)] [.inl t0, .inl t1] σ (j_Mo_sign_25 rec σ p0 v2 t0 t1) := by
  unfold j_Mo_sign_25
  refine g_ixor C D_Mo_sign_25 ?_
  refine g_let C (fun a1 => ?_)
  refine g_istore_n (L' := [(1, .inl a1), (0, .inl p0), (2, .inl v2)]) C D_Mo_sign_26 rfl (by decide) rfl ?_
  refine g_iinc (t := 2) (L' := fun z => [(2, .inl z), (1, .inl a1), (0, .inl p0)]) C D_Mo_sign_27 rfl (by decide) (fun _ => rfl) (fun a2 => ?_)
  refine g_goto (tgt := 4) C D_Mo_sign_30 (by decide) ?_
  refine g_sub [2, 1, 0] rfl ?_
  exact hrec _ _ _
def l_Mo_sign_4 (p0 : Int) (rec : gM → Int → Int → gO) (σ : gM) (v1 v2 : Int) : gO :=
  if v2 < 13 then
  (if (gAnd (gShr p0 v2) 1) = 1 then
  (j_Mo_sign_25 rec σ p0 v2 v2 v1)
  else
  (j_Mo_sign_25 rec σ p0 v2 0 v1))
  else
  (some (σ, v1))
set_option maxHeartbeats 4000000 in
theorem wl_Mo_sign_4 {X : gX} (C : gC gctM prog_9_method_6_code kR7 3 0 0 (some .int) X) {p0 : Int} : ∀ (n : Nat) (σ : gM) (a0 a1 : Int), GG gctM X 4 [(0, .inl p0), (1, .inl a0), (2, .inl a1)] [] σ (gl2 (l_Mo_sign_4 p0) n σ a0 a1) := by
  refine gl2_run (P := fun σ a0 a1 o => GG gctM X 4 [(0, .inl p0), (1, .inl a0), (2, .inl a1)] [] σ o) (fun _ _ _ => g_none) (fun rec hrec σ v1 v2 => ?_)
  unfold l_Mo_sign_4
  refine g_iload_n C D_Mo_sign_4 rfl 2 rfl ?_
  refine g_bipush C D_Mo_sign_5 (by decide) ⟨by decide, by decide⟩ ?_
  refine g_icmp_ge (tgt := 33) C D_Mo_sign_7 (by decide) ?_ ?_
  · refine g_iload_n C D_Mo_sign_33 rfl 1 rfl ?_
    exact g_iret C D_Mo_sign_34
  · refine g_iload_n C D_Mo_sign_10 rfl 1 rfl ?_
    refine g_iload_n C D_Mo_sign_11 rfl 0 rfl ?_
    refine g_iload_n C D_Mo_sign_12 rfl 2 rfl ?_
    refine g_ishr C D_Mo_sign_13 ?_
    refine g_iconst C D_Mo_sign_14 ⟨by decide, by decide⟩ ?_
    refine g_iand C D_Mo_sign_15 ?_
    refine g_iconst C D_Mo_sign_16 ⟨by decide, by decide⟩ ?_
    refine g_icmp_ne (tgt := 24) C D_Mo_sign_17 (by decide) ?_ ?_
    · refine g_iconst C D_Mo_sign_24 ⟨by decide, by decide⟩ ?_
      refine g_sub [0, 2] rfl ?_
      exact wj_Mo_sign_25 C hrec _ _ _ _
    · refine g_iload_n C D_Mo_sign_20 rfl 2 rfl ?_
      refine g_goto (tgt := 25) C D_Mo_sign_21 (by decide) ?_
      refine g_sub [0, 2] rfl ?_
      exact wj_Mo_sign_25 C hrec _ _ _ _
def F_Mo_sign (σ : gM) (v0 : Int) : gO :=
  gl2 (l_Mo_sign_4 v0) 200 σ 0 1
set_option maxHeartbeats 4000000 in
theorem w_Mo_sign {X : gX} (C : gC gctM prog_9_method_6_code kR7 3 0 0 (some .int) X) (σ : gM) (v0 : Int) : GG gctM X 0 [(0, .inl v0)] [] σ (F_Mo_sign σ v0) := by
  unfold F_Mo_sign
  refine g_iconst C D_Mo_sign_0 ⟨by decide, by decide⟩ ?_
  refine g_istore_n (L' := [(1, .inl 0), (0, .inl v0)]) C D_Mo_sign_1 rfl (by decide) rfl ?_
  refine g_iconst C D_Mo_sign_2 ⟨by decide, by decide⟩ ?_
  refine g_istore_n (L' := [(2, .inl 1), (1, .inl 0), (0, .inl v0)]) C D_Mo_sign_3 rfl (by decide) rfl ?_
  refine g_sub [2, 1, 0] rfl ?_
  exact wl_Mo_sign_4 C 200 _ _ _
theorem c_Mo_sign {σ : gM} {v0 : Int} {r : gR} (ho : F_Mo_sign σ v0 = some r) (hok : gOk [.inl v0]) (hin : gIn gctM σ) : gCt gctM Y_Mo_sign prog_9_method_6_code 3 (some .int) 0 0 [.inl v0] σ r := g_entry (by decide) rfl (Nat.le_of_ble_eq_true rfl) ho hok hin (fun X C => w_Mo_sign C σ v0)
theorem D_Mo_odd_0 : decode prog_9_method_7_code 0 = .ok (.iconst 0, 1) := by decide +kernel
theorem D_Mo_odd_1 : decode prog_9_method_7_code 1 = .ok (.istore_n 1, 1) := by decide +kernel
theorem D_Mo_odd_2 : decode prog_9_method_7_code 2 = .ok (.iconst 0, 1) := by decide +kernel
theorem D_Mo_odd_3 : decode prog_9_method_7_code 3 = .ok (.istore_n 2, 1) := by decide +kernel
theorem D_Mo_odd_4 : decode prog_9_method_7_code 4 = .ok (.iload_n 2, 1) := by decide +kernel
theorem D_Mo_odd_5 : decode prog_9_method_7_code 5 = .ok (.bipush 13, 2) := by decide +kernel
theorem D_Mo_odd_7 : decode prog_9_method_7_code 7 = .ok (.if_icmp .ge 17, 3) := by decide +kernel
theorem D_Mo_odd_10 : decode prog_9_method_7_code 10 = .ok (.iload_n 1, 1) := by decide +kernel
theorem D_Mo_odd_11 : decode prog_9_method_7_code 11 = .ok (.iload_n 0, 1) := by decide +kernel
theorem D_Mo_odd_12 : decode prog_9_method_7_code 12 = .ok (.iload_n 2, 1) := by decide +kernel
theorem D_Mo_odd_13 : decode prog_9_method_7_code 13 = .ok (.ishr, 1) := by decide +kernel
theorem D_Mo_odd_14 : decode prog_9_method_7_code 14 = .ok (.iconst 1, 1) := by decide +kernel
theorem D_Mo_odd_15 : decode prog_9_method_7_code 15 = .ok (.iand, 1) := by decide +kernel
theorem D_Mo_odd_16 : decode prog_9_method_7_code 16 = .ok (.ixor, 1) := by decide +kernel
theorem D_Mo_odd_17 : decode prog_9_method_7_code 17 = .ok (.istore_n 1, 1) := by decide +kernel
theorem D_Mo_odd_18 : decode prog_9_method_7_code 18 = .ok (.iinc 2 1, 3) := by decide +kernel
theorem D_Mo_odd_21 : decode prog_9_method_7_code 21 = .ok (.goto (-17), 3) := by decide +kernel
theorem D_Mo_odd_24 : decode prog_9_method_7_code 24 = .ok (.iload_n 1, 1) := by decide +kernel
theorem D_Mo_odd_25 : decode prog_9_method_7_code 25 = .ok (.ireturn, 1) := by decide +kernel
def l_Mo_odd_4 (p0 : Int) (rec : gM → Int → Int → gO) (σ : gM) (v1 v2 : Int) : gO :=
  if v2 < 13 then
  (gv (gXor v1 (gAnd (gShr p0 v2) 1)) fun a1 =>
  ga (v2 + 1) fun a2 =>
  rec σ a1 a2)
  else
  (some (σ, v1))
set_option maxHeartbeats 4000000 in
theorem wl_Mo_odd_4 {X : gX} (C : gC gctM prog_9_method_7_code kR7 3 0 0 (some .int) X) {p0 : Int} : ∀ (n : Nat) (σ : gM) (a0 a1 : Int), GG gctM X 4 [(0, .inl p0), (1, .inl a0), (2, .inl a1)] [] σ (gl2 (l_Mo_odd_4 p0) n σ a0 a1) := by
  refine gl2_run (P := fun σ a0 a1 o => GG gctM X 4 [(0, .inl p0), (1, .inl a0), (2, .inl a1)] [] σ o) (fun _ _ _ => g_none) (fun rec hrec σ v1 v2 => ?_)
  unfold l_Mo_odd_4
  refine g_iload_n C D_Mo_odd_4 rfl 2 rfl ?_
  refine g_bipush C D_Mo_odd_5 (by decide) ⟨by decide, by decide⟩ ?_
  refine g_icmp_ge (tgt := 24) C D_Mo_odd_7 (by decide) ?_ ?_
  · refine g_iload_n C D_Mo_odd_24 rfl 1 rfl ?_
    exact g_iret C D_Mo_odd_25
  · refine g_iload_n C D_Mo_odd_10 rfl 1 rfl ?_
    refine g_iload_n C D_Mo_odd_11 rfl 0 rfl ?_
    refine g_iload_n C D_Mo_odd_12 rfl 2 rfl ?_
    refine g_ishr C D_Mo_odd_13 ?_
    refine g_iconst C D_Mo_odd_14 ⟨by decide, by decide⟩ ?_
    refine g_iand C D_Mo_odd_15 ?_
    refine g_ixor C D_Mo_odd_16 ?_
    refine g_let C (fun a1 => ?_)
    refine g_istore_n (L' := [(1, .inl a1), (0, .inl p0), (2, .inl v2)]) C D_Mo_odd_17 rfl (by decide) rfl ?_
    refine g_iinc (t := 2) (L' := fun z => [(2, .inl z), (1, .inl a1), (0, .inl p0)]) C D_Mo_odd_18 rfl (by decide) (fun _ => rfl) (fun a2 => ?_)
    refine g_goto (tgt := 4) C D_Mo_odd_21 (by decide) ?_
    refine g_sub [2, 1, 0] rfl ?_
    exact hrec _ _ _
def F_Mo_odd (σ : gM) (v0 : Int) : gO :=
  gl2 (l_Mo_odd_4 v0) 200 σ 0 0
set_option maxHeartbeats 4000000 in
theorem w_Mo_odd {X : gX} (C : gC gctM prog_9_method_7_code kR7 3 0 0 (some .int) X) (σ : gM) (v0 : Int) : GG gctM X 0 [(0, .inl v0)] [] σ (F_Mo_odd σ v0) := by
  unfold F_Mo_odd
  refine g_iconst C D_Mo_odd_0 ⟨by decide, by decide⟩ ?_
  refine g_istore_n (L' := [(1, .inl 0), (0, .inl v0)]) C D_Mo_odd_1 rfl (by decide) rfl ?_
  refine g_iconst C D_Mo_odd_2 ⟨by decide, by decide⟩ ?_
  refine g_istore_n (L' := [(2, .inl 0), (1, .inl 0), (0, .inl v0)]) C D_Mo_odd_3 rfl (by decide) rfl ?_
  refine g_sub [2, 1, 0] rfl ?_
  exact wl_Mo_odd_4 C 200 _ _ _
theorem c_Mo_odd {σ : gM} {v0 : Int} {r : gR} (ho : F_Mo_odd σ v0 = some r) (hok : gOk [.inl v0]) (hin : gIn gctM σ) : gCt gctM Y_Mo_odd prog_9_method_7_code 3 (some .int) 0 0 [.inl v0] σ r := g_entry (by decide) rfl (Nat.le_of_ble_eq_true rfl) ho hok hin (fun X C => w_Mo_odd C σ v0)
theorem D_Mo_code_0 : decode prog_9_method_8_code 0 = .ok (.iconst 0, 1) := by decide +kernel
theorem D_Mo_code_1 : decode prog_9_method_8_code 1 = .ok (.istore_n 1, 1) := by decide +kernel
theorem D_Mo_code_2 : decode prog_9_method_8_code 2 = .ok (.iconst 0, 1) := by decide +kernel
theorem D_Mo_code_3 : decode prog_9_method_8_code 3 = .ok (.istore_n 2, 1) := by decide +kernel
theorem D_Mo_code_4 : decode prog_9_method_8_code 4 = .ok (.iload_n 2, 1) := by decide +kernel
theorem D_Mo_code_5 : decode prog_9_method_8_code 5 = .ok (.bipush 8, 2) := by decide +kernel
theorem D_Mo_code_7 : decode prog_9_method_8_code 7 = .ok (.if_icmp .ge 22, 3) := by decide +kernel
theorem D_Mo_code_10 : decode prog_9_method_8_code 10 = .ok (.iload_n 1, 1) := by decide +kernel
theorem D_Mo_code_11 : decode prog_9_method_8_code 11 = .ok (.iload_n 0, 1) := by decide +kernel
theorem D_Mo_code_12 : decode prog_9_method_8_code 12 = .ok (.iload_n 2, 1) := by decide +kernel
theorem D_Mo_code_13 : decode prog_9_method_8_code 13 = .ok (.ishr, 1) := by decide +kernel
theorem D_Mo_code_14 : decode prog_9_method_8_code 14 = .ok (.iconst 1, 1) := by decide +kernel
theorem D_Mo_code_15 : decode prog_9_method_8_code 15 = .ok (.iand, 1) := by decide +kernel
theorem D_Mo_code_16 : decode prog_9_method_8_code 16 = .ok (.iload_n 2, 1) := by decide +kernel
theorem D_Mo_code_17 : decode prog_9_method_8_code 17 = .ok (.invokestatic 128, 3) := by decide +kernel
theorem D_Mo_code_20 : decode prog_9_method_8_code 20 = .ok (.ishl, 1) := by decide +kernel
theorem D_Mo_code_21 : decode prog_9_method_8_code 21 = .ok (.ior, 1) := by decide +kernel
theorem D_Mo_code_22 : decode prog_9_method_8_code 22 = .ok (.istore_n 1, 1) := by decide +kernel
theorem D_Mo_code_23 : decode prog_9_method_8_code 23 = .ok (.iinc 2 1, 3) := by decide +kernel
theorem D_Mo_code_26 : decode prog_9_method_8_code 26 = .ok (.goto (-22), 3) := by decide +kernel
theorem D_Mo_code_29 : decode prog_9_method_8_code 29 = .ok (.iload_n 1, 1) := by decide +kernel
theorem D_Mo_code_30 : decode prog_9_method_8_code 30 = .ok (.invokestatic 132, 3) := by decide +kernel
theorem D_Mo_code_33 : decode prog_9_method_8_code 33 = .ok (.istore_n 2, 1) := by decide +kernel
theorem D_Mo_code_34 : decode prog_9_method_8_code 34 = .ok (.iconst 0, 1) := by decide +kernel
theorem D_Mo_code_35 : decode prog_9_method_8_code 35 = .ok (.istore_n 3, 1) := by decide +kernel
theorem D_Mo_code_36 : decode prog_9_method_8_code 36 = .ok (.iload_n 3, 1) := by decide +kernel
theorem D_Mo_code_37 : decode prog_9_method_8_code 37 = .ok (.iconst 4, 1) := by decide +kernel
theorem D_Mo_code_38 : decode prog_9_method_8_code 38 = .ok (.if_icmp .ge 21, 3) := by decide +kernel
theorem D_Mo_code_41 : decode prog_9_method_8_code 41 = .ok (.iload_n 1, 1) := by decide +kernel
theorem D_Mo_code_42 : decode prog_9_method_8_code 42 = .ok (.iload_n 2, 1) := by decide +kernel
theorem D_Mo_code_43 : decode prog_9_method_8_code 43 = .ok (.iload_n 3, 1) := by decide +kernel
theorem D_Mo_code_44 : decode prog_9_method_8_code 44 = .ok (.ishr, 1) := by decide +kernel
theorem D_Mo_code_45 : decode prog_9_method_8_code 45 = .ok (.iconst 1, 1) := by decide +kernel
theorem D_Mo_code_46 : decode prog_9_method_8_code 46 = .ok (.iand, 1) := by decide +kernel
theorem D_Mo_code_47 : decode prog_9_method_8_code 47 = .ok (.iconst 1, 1) := by decide +kernel
theorem D_Mo_code_48 : decode prog_9_method_8_code 48 = .ok (.iload_n 3, 1) := by decide +kernel
theorem D_Mo_code_49 : decode prog_9_method_8_code 49 = .ok (.ishl, 1) := by decide +kernel
theorem D_Mo_code_50 : decode prog_9_method_8_code 50 = .ok (.ishl, 1) := by decide +kernel
theorem D_Mo_code_51 : decode prog_9_method_8_code 51 = .ok (.ior, 1) := by decide +kernel
theorem D_Mo_code_52 : decode prog_9_method_8_code 52 = .ok (.istore_n 1, 1) := by decide +kernel
theorem D_Mo_code_53 : decode prog_9_method_8_code 53 = .ok (.iinc 3 1, 3) := by decide +kernel
theorem D_Mo_code_56 : decode prog_9_method_8_code 56 = .ok (.goto (-20), 3) := by decide +kernel
theorem D_Mo_code_59 : decode prog_9_method_8_code 59 = .ok (.iload_n 1, 1) := by decide +kernel
theorem D_Mo_code_60 : decode prog_9_method_8_code 60 = .ok (.iload_n 1, 1) := by decide +kernel
theorem D_Mo_code_61 : decode prog_9_method_8_code 61 = .ok (.invokestatic 135, 3) := by decide +kernel
theorem D_Mo_code_64 : decode prog_9_method_8_code 64 = .ok (.ior, 1) := by decide +kernel
theorem D_Mo_code_65 : decode prog_9_method_8_code 65 = .ok (.ireturn, 1) := by decide +kernel
def l_Mo_code_4 (k1 : gM → Int → gO) (p0 : Int) (rec : gM → Int → Int → gO) (σ : gM) (v1 v2 : Int) : gO :=
  if v2 < 8 then
  (gk (F_Mo_placeOf σ v2) fun s1 a2 =>
  gv (gOr v1 (gShl (gAnd (gShr p0 v2) 1) a2)) fun a3 =>
  ga (v2 + 1) fun a4 =>
  rec s1 a3 a4)
  else
  (k1 σ v1)
set_option maxHeartbeats 4000000 in
theorem wl_Mo_code_4 {X : gX} (C : gC gctM prog_9_method_8_code kR7 4 1 22 (some .int) X) {p0 : Int} {k1 : gM → Int → gO} (hk1 : ∀ (σ : gM) (a0 : Int), GG gctM X 29 [(1, .inl a0)] [] σ (k1 σ a0)) : ∀ (n : Nat) (σ : gM) (a0 a1 : Int), GG gctM X 4 [(0, .inl p0), (1, .inl a0), (2, .inl a1)] [] σ (gl2 (l_Mo_code_4 k1 p0) n σ a0 a1) := by
  refine gl2_run (P := fun σ a0 a1 o => GG gctM X 4 [(0, .inl p0), (1, .inl a0), (2, .inl a1)] [] σ o) (fun _ _ _ => g_none) (fun rec hrec σ v1 v2 => ?_)
  unfold l_Mo_code_4
  refine g_iload_n C D_Mo_code_4 rfl 2 rfl ?_
  refine g_bipush C D_Mo_code_5 (by decide) ⟨by decide, by decide⟩ ?_
  refine g_icmp_ge (tgt := 29) C D_Mo_code_7 (by decide) ?_ ?_
  · refine g_sub [1] rfl ?_
    exact hk1 _ _
  · refine g_iload_n C D_Mo_code_10 rfl 1 rfl ?_
    refine g_iload_n C D_Mo_code_11 rfl 0 rfl ?_
    refine g_iload_n C D_Mo_code_12 rfl 2 rfl ?_
    refine g_ishr C D_Mo_code_13 ?_
    refine g_iconst C D_Mo_code_14 ⟨by decide, by decide⟩ ?_
    refine g_iand C D_Mo_code_15 ?_
    refine g_iload_n C D_Mo_code_16 rfl 2 rfl ?_
    refine g_callSi C [.inl v2] [.inl (gAnd (gShr p0 v2) 1), .inl v1] (Or.inl rfl) rfl (fun _ h1 h2 h3 => c_Mo_placeOf h1 h2 h3) wc_7_128 (by decide) (Nat.le_of_ble_eq_true rfl) D_Mo_code_17 (fun s1 a2 => ?_)
    refine g_ishl C D_Mo_code_20 ?_
    refine g_ior C D_Mo_code_21 ?_
    refine g_let C (fun a3 => ?_)
    refine g_istore_n (L' := [(1, .inl a3), (0, .inl p0), (2, .inl v2)]) C D_Mo_code_22 rfl (by decide) rfl ?_
    refine g_iinc (t := 2) (L' := fun z => [(2, .inl z), (1, .inl a3), (0, .inl p0)]) C D_Mo_code_23 rfl (by decide) (fun _ => rfl) (fun a4 => ?_)
    refine g_goto (tgt := 4) C D_Mo_code_26 (by decide) ?_
    refine g_sub [2, 1, 0] rfl ?_
    exact hrec _ _ _
def l_Mo_code_36 (k1 : gM → Int → gO) (p2 : Int) (rec : gM → Int → Int → gO) (σ : gM) (v1 v3 : Int) : gO :=
  if v3 < 4 then
  (gv (gOr v1 (gShl (gAnd (gShr p2 v3) 1) (gShl 1 v3))) fun a1 =>
  ga (v3 + 1) fun a2 =>
  rec σ a1 a2)
  else
  (k1 σ v1)
set_option maxHeartbeats 4000000 in
theorem wl_Mo_code_36 {X : gX} (C : gC gctM prog_9_method_8_code kR7 4 1 22 (some .int) X) {p2 : Int} {k1 : gM → Int → gO} (hk1 : ∀ (σ : gM) (a0 : Int), GG gctM X 59 [(1, .inl a0)] [] σ (k1 σ a0)) : ∀ (n : Nat) (σ : gM) (a0 a1 : Int), GG gctM X 36 [(1, .inl a0), (2, .inl p2), (3, .inl a1)] [] σ (gl2 (l_Mo_code_36 k1 p2) n σ a0 a1) := by
  refine gl2_run (P := fun σ a0 a1 o => GG gctM X 36 [(1, .inl a0), (2, .inl p2), (3, .inl a1)] [] σ o) (fun _ _ _ => g_none) (fun rec hrec σ v1 v3 => ?_)
  unfold l_Mo_code_36
  refine g_iload_n C D_Mo_code_36 rfl 2 rfl ?_
  refine g_iconst C D_Mo_code_37 ⟨by decide, by decide⟩ ?_
  refine g_icmp_ge (tgt := 59) C D_Mo_code_38 (by decide) ?_ ?_
  · refine g_sub [0] rfl ?_
    exact hk1 _ _
  · refine g_iload_n C D_Mo_code_41 rfl 0 rfl ?_
    refine g_iload_n C D_Mo_code_42 rfl 1 rfl ?_
    refine g_iload_n C D_Mo_code_43 rfl 2 rfl ?_
    refine g_ishr C D_Mo_code_44 ?_
    refine g_iconst C D_Mo_code_45 ⟨by decide, by decide⟩ ?_
    refine g_iand C D_Mo_code_46 ?_
    refine g_iconst C D_Mo_code_47 ⟨by decide, by decide⟩ ?_
    refine g_iload_n C D_Mo_code_48 rfl 2 rfl ?_
    refine g_ishl C D_Mo_code_49 ?_
    refine g_ishl C D_Mo_code_50 ?_
    refine g_ior C D_Mo_code_51 ?_
    refine g_let C (fun a1 => ?_)
    refine g_istore_n (L' := [(1, .inl a1), (2, .inl p2), (3, .inl v3)]) C D_Mo_code_52 rfl (by decide) rfl ?_
    refine g_iinc (t := 2) (L' := fun z => [(3, .inl z), (1, .inl a1), (2, .inl p2)]) C D_Mo_code_53 rfl (by decide) (fun _ => rfl) (fun a2 => ?_)
    refine g_goto (tgt := 36) C D_Mo_code_56 (by decide) ?_
    refine g_sub [1, 2, 0] rfl ?_
    exact hrec _ _ _
def F_Mo_code (σ : gM) (v0 : Int) : gO :=
  gl2 (l_Mo_code_4 (fun s2 b1 => gk (F_Mo_sign s2 b1) fun s3 a4 =>
  gl2 (l_Mo_code_36 (fun s6 b5 => gk (F_Mo_odd s6 b5) fun s7 a8 =>
  some (s7, (gOr b5 a8))) a4) 200 s3 b1 0) v0) 200 σ 0 0
set_option maxHeartbeats 4000000 in
theorem w_Mo_code {X : gX} (C : gC gctM prog_9_method_8_code kR7 4 1 22 (some .int) X) (σ : gM) (v0 : Int) : GG gctM X 0 [(0, .inl v0)] [] σ (F_Mo_code σ v0) := by
  unfold F_Mo_code
  refine g_iconst C D_Mo_code_0 ⟨by decide, by decide⟩ ?_
  refine g_istore_n (L' := [(1, .inl 0), (0, .inl v0)]) C D_Mo_code_1 rfl (by decide) rfl ?_
  refine g_iconst C D_Mo_code_2 ⟨by decide, by decide⟩ ?_
  refine g_istore_n (L' := [(2, .inl 0), (1, .inl 0), (0, .inl v0)]) C D_Mo_code_3 rfl (by decide) rfl ?_
  refine g_sub [2, 1, 0] rfl ?_
  exact wl_Mo_code_4 C (fun s2 b1 => by
      refine g_iload_n C D_Mo_code_29 rfl 0 rfl ?_
      refine g_callSi C [.inl b1] [] (Or.inl rfl) rfl (fun _ h1 h2 h3 => c_Mo_sign h1 h2 h3) wc_7_132 (by decide) (Nat.le_of_ble_eq_true rfl) D_Mo_code_30 (fun s3 a4 => ?_)
      refine g_istore_n (L' := [(2, .inl a4), (1, .inl b1)]) C D_Mo_code_33 rfl (by decide) rfl ?_
      refine g_iconst C D_Mo_code_34 ⟨by decide, by decide⟩ ?_
      refine g_istore_n (L' := [(3, .inl 0), (2, .inl a4), (1, .inl b1)]) C D_Mo_code_35 rfl (by decide) rfl ?_
      refine g_sub [2, 1, 0] rfl ?_
      exact wl_Mo_code_36 C (fun s6 b5 => by
          refine g_iload_n C D_Mo_code_59 rfl 0 rfl ?_
          refine g_iload_n C D_Mo_code_60 rfl 0 rfl ?_
          refine g_callSi C [.inl b5] [.inl b5] (Or.inl rfl) rfl (fun _ h1 h2 h3 => c_Mo_odd h1 h2 h3) wc_7_135 (by decide) (Nat.le_of_ble_eq_true rfl) D_Mo_code_61 (fun s7 a8 => ?_)
          refine g_ior C D_Mo_code_64 ?_
          exact g_iret C D_Mo_code_65) 200 _ _ _) 200 _ _ _
theorem c_Mo_code {σ : gM} {v0 : Int} {r : gR} (ho : F_Mo_code σ v0 = some r) (hok : gOk [.inl v0]) (hin : gIn gctM σ) : gCt gctM Y_Mo_code prog_9_method_8_code 4 (some .int) 1 22 [.inl v0] σ r := g_entry (by decide) rfl (Nat.le_of_ble_eq_true rfl) ho hok hin (fun X C => w_Mo_code C σ v0)
theorem D_Mo_value_0 : decode prog_9_method_9_code 0 = .ok (.iconst 0, 1) := by decide +kernel
theorem D_Mo_value_1 : decode prog_9_method_9_code 1 = .ok (.istore_n 1, 1) := by decide +kernel
theorem D_Mo_value_2 : decode prog_9_method_9_code 2 = .ok (.iconst 0, 1) := by decide +kernel
theorem D_Mo_value_3 : decode prog_9_method_9_code 3 = .ok (.istore_n 2, 1) := by decide +kernel
theorem D_Mo_value_4 : decode prog_9_method_9_code 4 = .ok (.iload_n 2, 1) := by decide +kernel
theorem D_Mo_value_5 : decode prog_9_method_9_code 5 = .ok (.bipush 8, 2) := by decide +kernel
theorem D_Mo_value_7 : decode prog_9_method_9_code 7 = .ok (.if_icmp .ge 22, 3) := by decide +kernel
theorem D_Mo_value_10 : decode prog_9_method_9_code 10 = .ok (.iload_n 1, 1) := by decide +kernel
theorem D_Mo_value_11 : decode prog_9_method_9_code 11 = .ok (.iload_n 0, 1) := by decide +kernel
theorem D_Mo_value_12 : decode prog_9_method_9_code 12 = .ok (.iload_n 2, 1) := by decide +kernel
theorem D_Mo_value_13 : decode prog_9_method_9_code 13 = .ok (.invokestatic 128, 3) := by decide +kernel
theorem D_Mo_value_16 : decode prog_9_method_9_code 16 = .ok (.ishr, 1) := by decide +kernel
theorem D_Mo_value_17 : decode prog_9_method_9_code 17 = .ok (.iconst 1, 1) := by decide +kernel
theorem D_Mo_value_18 : decode prog_9_method_9_code 18 = .ok (.iand, 1) := by decide +kernel
theorem D_Mo_value_19 : decode prog_9_method_9_code 19 = .ok (.iload_n 2, 1) := by decide +kernel
theorem D_Mo_value_20 : decode prog_9_method_9_code 20 = .ok (.ishl, 1) := by decide +kernel
theorem D_Mo_value_21 : decode prog_9_method_9_code 21 = .ok (.ior, 1) := by decide +kernel
theorem D_Mo_value_22 : decode prog_9_method_9_code 22 = .ok (.istore_n 1, 1) := by decide +kernel
theorem D_Mo_value_23 : decode prog_9_method_9_code 23 = .ok (.iinc 2 1, 3) := by decide +kernel
theorem D_Mo_value_26 : decode prog_9_method_9_code 26 = .ok (.goto (-22), 3) := by decide +kernel
theorem D_Mo_value_29 : decode prog_9_method_9_code 29 = .ok (.iload_n 1, 1) := by decide +kernel
theorem D_Mo_value_30 : decode prog_9_method_9_code 30 = .ok (.ireturn, 1) := by decide +kernel
def l_Mo_value_4 (p0 : Int) (rec : gM → Int → Int → gO) (σ : gM) (v1 v2 : Int) : gO :=
  if v2 < 8 then
  (gk (F_Mo_placeOf σ v2) fun s1 a2 =>
  gv (gOr v1 (gShl (gAnd (gShr p0 a2) 1) v2)) fun a3 =>
  ga (v2 + 1) fun a4 =>
  rec s1 a3 a4)
  else
  (some (σ, v1))
set_option maxHeartbeats 4000000 in
theorem wl_Mo_value_4 {X : gX} (C : gC gctM prog_9_method_9_code kR7 3 1 20 (some .int) X) {p0 : Int} : ∀ (n : Nat) (σ : gM) (a0 a1 : Int), GG gctM X 4 [(0, .inl p0), (1, .inl a0), (2, .inl a1)] [] σ (gl2 (l_Mo_value_4 p0) n σ a0 a1) := by
  refine gl2_run (P := fun σ a0 a1 o => GG gctM X 4 [(0, .inl p0), (1, .inl a0), (2, .inl a1)] [] σ o) (fun _ _ _ => g_none) (fun rec hrec σ v1 v2 => ?_)
  unfold l_Mo_value_4
  refine g_iload_n C D_Mo_value_4 rfl 2 rfl ?_
  refine g_bipush C D_Mo_value_5 (by decide) ⟨by decide, by decide⟩ ?_
  refine g_icmp_ge (tgt := 29) C D_Mo_value_7 (by decide) ?_ ?_
  · refine g_iload_n C D_Mo_value_29 rfl 1 rfl ?_
    exact g_iret C D_Mo_value_30
  · refine g_iload_n C D_Mo_value_10 rfl 1 rfl ?_
    refine g_iload_n C D_Mo_value_11 rfl 0 rfl ?_
    refine g_iload_n C D_Mo_value_12 rfl 2 rfl ?_
    refine g_callSi C [.inl v2] [.inl p0, .inl v1] (Or.inl rfl) rfl (fun _ h1 h2 h3 => c_Mo_placeOf h1 h2 h3) wc_7_128 (by decide) (Nat.le_of_ble_eq_true rfl) D_Mo_value_13 (fun s1 a2 => ?_)
    refine g_ishr C D_Mo_value_16 ?_
    refine g_iconst C D_Mo_value_17 ⟨by decide, by decide⟩ ?_
    refine g_iand C D_Mo_value_18 ?_
    refine g_iload_n C D_Mo_value_19 rfl 2 rfl ?_
    refine g_ishl C D_Mo_value_20 ?_
    refine g_ior C D_Mo_value_21 ?_
    refine g_let C (fun a3 => ?_)
    refine g_istore_n (L' := [(1, .inl a3), (0, .inl p0), (2, .inl v2)]) C D_Mo_value_22 rfl (by decide) rfl ?_
    refine g_iinc (t := 2) (L' := fun z => [(2, .inl z), (1, .inl a3), (0, .inl p0)]) C D_Mo_value_23 rfl (by decide) (fun _ => rfl) (fun a4 => ?_)
    refine g_goto (tgt := 4) C D_Mo_value_26 (by decide) ?_
    refine g_sub [2, 1, 0] rfl ?_
    exact hrec _ _ _
def F_Mo_value (σ : gM) (v0 : Int) : gO :=
  gl2 (l_Mo_value_4 v0) 200 σ 0 0
set_option maxHeartbeats 4000000 in
theorem w_Mo_value {X : gX} (C : gC gctM prog_9_method_9_code kR7 3 1 20 (some .int) X) (σ : gM) (v0 : Int) : GG gctM X 0 [(0, .inl v0)] [] σ (F_Mo_value σ v0) := by
  unfold F_Mo_value
  refine g_iconst C D_Mo_value_0 ⟨by decide, by decide⟩ ?_
  refine g_istore_n (L' := [(1, .inl 0), (0, .inl v0)]) C D_Mo_value_1 rfl (by decide) rfl ?_
  refine g_iconst C D_Mo_value_2 ⟨by decide, by decide⟩ ?_
  refine g_istore_n (L' := [(2, .inl 0), (1, .inl 0), (0, .inl v0)]) C D_Mo_value_3 rfl (by decide) rfl ?_
  refine g_sub [2, 1, 0] rfl ?_
  exact wl_Mo_value_4 C 200 _ _ _
theorem c_Mo_value {σ : gM} {v0 : Int} {r : gR} (ho : F_Mo_value σ v0 = some r) (hok : gOk [.inl v0]) (hin : gIn gctM σ) : gCt gctM Y_Mo_value prog_9_method_9_code 3 (some .int) 1 20 [.inl v0] σ r := g_entry (by decide) rfl (Nat.le_of_ble_eq_true rfl) ho hok hin (fun X C => w_Mo_value C σ v0)
theorem D_Mo_mend_0 : decode prog_9_method_10_code 0 = .ok (.iload_n 0, 1) := by decide +kernel
theorem D_Mo_mend_1 : decode prog_9_method_10_code 1 = .ok (.invokestatic 132, 3) := by decide +kernel
theorem D_Mo_mend_4 : decode prog_9_method_10_code 4 = .ok (.istore_n 1, 1) := by decide +kernel
theorem D_Mo_mend_5 : decode prog_9_method_10_code 5 = .ok (.iload_n 0, 1) := by decide +kernel
theorem D_Mo_mend_6 : decode prog_9_method_10_code 6 = .ok (.invokestatic 135, 3) := by decide +kernel
theorem D_Mo_mend_9 : decode prog_9_method_10_code 9 = .ok (.ifCond .ne 14, 3) := by decide +kernel
theorem D_Mo_mend_12 : decode prog_9_method_10_code 12 = .ok (.iload_n 1, 1) := by decide +kernel
theorem D_Mo_mend_13 : decode prog_9_method_10_code 13 = .ok (.ifCond .ne 7, 3) := by decide +kernel
theorem D_Mo_mend_16 : decode prog_9_method_10_code 16 = .ok (.iload_n 0, 1) := by decide +kernel
theorem D_Mo_mend_17 : decode prog_9_method_10_code 17 = .ok (.goto 5, 3) := by decide +kernel
theorem D_Mo_mend_20 : decode prog_9_method_10_code 20 = .ok (.bipush (-5), 2) := by decide +kernel
theorem D_Mo_mend_22 : decode prog_9_method_10_code 22 = .ok (.ireturn, 1) := by decide +kernel
theorem D_Mo_mend_23 : decode prog_9_method_10_code 23 = .ok (.iload_n 1, 1) := by decide +kernel
theorem D_Mo_mend_24 : decode prog_9_method_10_code 24 = .ok (.bipush 12, 2) := by decide +kernel
theorem D_Mo_mend_26 : decode prog_9_method_10_code 26 = .ok (.if_icmp .le 8, 3) := by decide +kernel
theorem D_Mo_mend_29 : decode prog_9_method_10_code 29 = .ok (.bipush (-5), 2) := by decide +kernel
theorem D_Mo_mend_31 : decode prog_9_method_10_code 31 = .ok (.goto 8, 3) := by decide +kernel
theorem D_Mo_mend_34 : decode prog_9_method_10_code 34 = .ok (.iload_n 0, 1) := by decide +kernel
theorem D_Mo_mend_35 : decode prog_9_method_10_code 35 = .ok (.iconst 1, 1) := by decide +kernel
theorem D_Mo_mend_36 : decode prog_9_method_10_code 36 = .ok (.iload_n 1, 1) := by decide +kernel
theorem D_Mo_mend_37 : decode prog_9_method_10_code 37 = .ok (.ishl, 1) := by decide +kernel
theorem D_Mo_mend_38 : decode prog_9_method_10_code 38 = .ok (.ixor, 1) := by decide +kernel
theorem D_Mo_mend_39 : decode prog_9_method_10_code 39 = .ok (.ireturn, 1) := by decide +kernel
def j_Mo_mend_39 (σ : gM) (t0 : Int) : gO :=
  some (σ, t0)
set_option maxHeartbeats 4000000 in
theorem wj_Mo_mend_39 {X : gX} (C : gC gctM prog_9_method_10_code kR7 2 1 22 (some .int) X) (σ : gM) (t0 : Int) : GG gctM X 39 [] [.inl t0] σ (j_Mo_mend_39 σ t0) := by
  unfold j_Mo_mend_39
  exact g_iret C D_Mo_mend_39
def j_Mo_mend_22 (σ : gM) (t0 : Int) : gO :=
  some (σ, t0)
set_option maxHeartbeats 4000000 in
theorem wj_Mo_mend_22 {X : gX} (C : gC gctM prog_9_method_10_code kR7 2 1 22 (some .int) X) (σ : gM) (t0 : Int) : GG gctM X 22 [] [.inl t0] σ (j_Mo_mend_22 σ t0) := by
  unfold j_Mo_mend_22
  exact g_iret C D_Mo_mend_22
def F_Mo_mend (σ : gM) (v0 : Int) : gO :=
  gk (F_Mo_sign σ v0) fun s1 a2 =>
  gk (F_Mo_odd s1 v0) fun s3 a4 =>
  if a4 = 0 then
  (if a2 = 0 then
  (j_Mo_mend_22 s3 v0)
  else
  (j_Mo_mend_22 s3 (-5)))
  else
  (if 12 < a2 then
  (j_Mo_mend_39 s3 (-5))
  else
  (j_Mo_mend_39 s3 (gXor v0 (gShl 1 a2))))
set_option maxHeartbeats 4000000 in
theorem w_Mo_mend {X : gX} (C : gC gctM prog_9_method_10_code kR7 2 1 22 (some .int) X) (σ : gM) (v0 : Int) : GG gctM X 0 [(0, .inl v0)] [] σ (F_Mo_mend σ v0) := by
  unfold F_Mo_mend
  refine g_iload_n C D_Mo_mend_0 rfl 0 rfl ?_
  refine g_callSi C [.inl v0] [] (Or.inl rfl) rfl (fun _ h1 h2 h3 => c_Mo_sign h1 h2 h3) wc_7_132 (by decide) (Nat.le_of_ble_eq_true rfl) D_Mo_mend_1 (fun s1 a2 => ?_)
  refine g_istore_n (L' := [(1, .inl a2), (0, .inl v0)]) C D_Mo_mend_4 rfl (by decide) rfl ?_
  refine g_iload_n C D_Mo_mend_5 rfl 1 rfl ?_
  refine g_callSi C [.inl v0] [] (Or.inl rfl) rfl (fun _ h1 h2 h3 => c_Mo_odd h1 h2 h3) wc_7_135 (by decide) (Nat.le_of_ble_eq_true rfl) D_Mo_mend_6 (fun s3 a4 => ?_)
  refine g_if_ne (tgt := 23) C D_Mo_mend_9 (by decide) ?_ ?_
  · refine g_iload_n C D_Mo_mend_23 rfl 0 rfl ?_
    refine g_bipush C D_Mo_mend_24 (by decide) ⟨by decide, by decide⟩ ?_
    refine g_icmp_le (tgt := 34) C D_Mo_mend_26 (by decide) ?_ ?_
    · refine g_iload_n C D_Mo_mend_34 rfl 1 rfl ?_
      refine g_iconst C D_Mo_mend_35 ⟨by decide, by decide⟩ ?_
      refine g_iload_n C D_Mo_mend_36 rfl 0 rfl ?_
      refine g_ishl C D_Mo_mend_37 ?_
      refine g_ixor C D_Mo_mend_38 ?_
      refine g_sub [] rfl ?_
      exact wj_Mo_mend_39 C _ _
    · refine g_bipush C D_Mo_mend_29 (by decide) ⟨by decide, by decide⟩ ?_
      refine g_goto (tgt := 39) C D_Mo_mend_31 (by decide) ?_
      refine g_sub [] rfl ?_
      exact wj_Mo_mend_39 C _ _
  · refine g_iload_n C D_Mo_mend_12 rfl 0 rfl ?_
    refine g_if_ne (tgt := 20) C D_Mo_mend_13 (by decide) ?_ ?_
    · refine g_bipush C D_Mo_mend_20 (by decide) ⟨by decide, by decide⟩ ?_
      refine g_sub [] rfl ?_
      exact wj_Mo_mend_22 C _ _
    · refine g_iload_n C D_Mo_mend_16 rfl 1 rfl ?_
      refine g_goto (tgt := 22) C D_Mo_mend_17 (by decide) ?_
      refine g_sub [] rfl ?_
      exact wj_Mo_mend_22 C _ _
theorem c_Mo_mend {σ : gM} {v0 : Int} {r : gR} (ho : F_Mo_mend σ v0 = some r) (hok : gOk [.inl v0]) (hin : gIn gctM σ) : gCt gctM Y_Mo_mend prog_9_method_10_code 2 (some .int) 1 22 [.inl v0] σ r := g_entry (by decide) rfl (Nat.le_of_ble_eq_true rfl) ho hok hin (fun X C => w_Mo_mend C σ v0)
theorem D_Mo_readCell_0 : decode prog_9_method_11_code 0 = .ok (.aload_n 0, 1) := by decide +kernel
theorem D_Mo_readCell_1 : decode prog_9_method_11_code 1 = .ok (.getfield 7, 3) := by decide +kernel
theorem D_Mo_readCell_4 : decode prog_9_method_11_code 4 = .ok (.iload_n 1, 1) := by decide +kernel
theorem D_Mo_readCell_5 : decode prog_9_method_11_code 5 = .ok (.iaload, 1) := by decide +kernel
theorem D_Mo_readCell_6 : decode prog_9_method_11_code 6 = .ok (.invokestatic 138, 3) := by decide +kernel
theorem D_Mo_readCell_9 : decode prog_9_method_11_code 9 = .ok (.istore_n 2, 1) := by decide +kernel
theorem D_Mo_readCell_10 : decode prog_9_method_11_code 10 = .ok (.iload_n 2, 1) := by decide +kernel
theorem D_Mo_readCell_11 : decode prog_9_method_11_code 11 = .ok (.ifCond .ge 6, 3) := by decide +kernel
theorem D_Mo_readCell_14 : decode prog_9_method_11_code 14 = .ok (.bipush (-5), 2) := by decide +kernel
theorem D_Mo_readCell_16 : decode prog_9_method_11_code 16 = .ok (.ireturn, 1) := by decide +kernel
theorem D_Mo_readCell_17 : decode prog_9_method_11_code 17 = .ok (.aload_n 0, 1) := by decide +kernel
theorem D_Mo_readCell_18 : decode prog_9_method_11_code 18 = .ok (.dup, 1) := by decide +kernel
theorem D_Mo_readCell_19 : decode prog_9_method_11_code 19 = .ok (.getfield 141, 3) := by decide +kernel
theorem D_Mo_readCell_22 : decode prog_9_method_11_code 22 = .ok (.iload_n 2, 1) := by decide +kernel
theorem D_Mo_readCell_23 : decode prog_9_method_11_code 23 = .ok (.aload_n 0, 1) := by decide +kernel
theorem D_Mo_readCell_24 : decode prog_9_method_11_code 24 = .ok (.getfield 7, 3) := by decide +kernel
theorem D_Mo_readCell_27 : decode prog_9_method_11_code 27 = .ok (.iload_n 1, 1) := by decide +kernel
theorem D_Mo_readCell_28 : decode prog_9_method_11_code 28 = .ok (.iaload, 1) := by decide +kernel
theorem D_Mo_readCell_29 : decode prog_9_method_11_code 29 = .ok (.if_icmp .ne 7, 3) := by decide +kernel
theorem D_Mo_readCell_32 : decode prog_9_method_11_code 32 = .ok (.iconst 0, 1) := by decide +kernel
theorem D_Mo_readCell_33 : decode prog_9_method_11_code 33 = .ok (.goto 4, 3) := by decide +kernel
theorem D_Mo_readCell_36 : decode prog_9_method_11_code 36 = .ok (.iconst 1, 1) := by decide +kernel
theorem D_Mo_readCell_37 : decode prog_9_method_11_code 37 = .ok (.iadd, 1) := by decide +kernel
theorem D_Mo_readCell_38 : decode prog_9_method_11_code 38 = .ok (.putfield 141, 3) := by decide +kernel
theorem D_Mo_readCell_41 : decode prog_9_method_11_code 41 = .ok (.aload_n 0, 1) := by decide +kernel
theorem D_Mo_readCell_42 : decode prog_9_method_11_code 42 = .ok (.getfield 7, 3) := by decide +kernel
theorem D_Mo_readCell_45 : decode prog_9_method_11_code 45 = .ok (.iload_n 1, 1) := by decide +kernel
theorem D_Mo_readCell_46 : decode prog_9_method_11_code 46 = .ok (.iload_n 2, 1) := by decide +kernel
theorem D_Mo_readCell_47 : decode prog_9_method_11_code 47 = .ok (.iastore, 1) := by decide +kernel
theorem D_Mo_readCell_48 : decode prog_9_method_11_code 48 = .ok (.iload_n 2, 1) := by decide +kernel
theorem D_Mo_readCell_49 : decode prog_9_method_11_code 49 = .ok (.invokestatic 144, 3) := by decide +kernel
theorem D_Mo_readCell_52 : decode prog_9_method_11_code 52 = .ok (.ireturn, 1) := by decide +kernel
def j_Mo_readCell_37_0 (σ : gM) (v1 v2 t0 t1 : Int) : gO :=
  ga (t1 + t0) fun a1 =>
  gp σ 0 4 a1 fun s2 =>
  gw s2 1 512 v1 v2 fun s3 =>
  gk (F_Mo_value s3 v2) fun s4 a5 =>
  some (s4, a5)
set_option maxHeartbeats 4000000 in
theorem wj_Mo_readCell_37_0 {X : gX} (C : gC gctM prog_9_method_11_code kR7 3 2 43 (some .int) X) (σ : gM) (v1 v2 t0 t1 : Int) : GG gctM X 37 [(0, .inr (.inr 0)), (1, .inl v1), (2, .inl v2)] [.inl t0, .inl t1, .inr (.inr 0)] σ (j_Mo_readCell_37_0 σ v1 v2 t0 t1) := by
  unfold j_Mo_readCell_37_0
  refine g_iadd C D_Mo_readCell_37 (fun a1 => ?_)
  refine g_putI (ci := 7) C 4 (jz := 4) rfl rfl kI7 kO7 kN7 rfl (by decide) rfl rfl wf_7_141 D_Mo_readCell_38 (fun s2 => ?_)
  refine g_aload_n C D_Mo_readCell_41 rfl 0 rfl ?_
  refine g_getr (ci := 7) C 0 rfl kI7 rfl (by decide) rfl rfl wf_7_7 D_Mo_readCell_42 ?_
  refine g_iload_n C D_Mo_readCell_45 rfl 1 rfl ?_
  refine g_iload_n C D_Mo_readCell_46 rfl 2 rfl ?_
  refine g_iast C rfl rfl D_Mo_readCell_47 (fun s3 => ?_)
  refine g_iload_n C D_Mo_readCell_48 rfl 2 rfl ?_
  refine g_callSi C [.inl v2] [] (Or.inl rfl) rfl (fun _ h1 h2 h3 => c_Mo_value h1 h2 h3) wc_7_144 (by decide) (Nat.le_of_ble_eq_true rfl) D_Mo_readCell_49 (fun s4 a5 => ?_)
  exact g_iret C D_Mo_readCell_52
def F_Mo_readCell (σ : gM) (v1 : Int) : gO :=
  gi v1 512 <|
  gk (F_Mo_mend σ (σ 1 v1)) fun s1 a2 =>
  if a2 < 0 then
  (some (s1, (-5)))
  else
  (gi v1 512 <|
  if a2 = (s1 1 v1) then
  (j_Mo_readCell_37_0 s1 v1 a2 0 (s1 0 4))
  else
  (j_Mo_readCell_37_0 s1 v1 a2 1 (s1 0 4)))
set_option maxHeartbeats 4000000 in
theorem w_Mo_readCell {X : gX} (C : gC gctM prog_9_method_11_code kR7 3 2 43 (some .int) X) (σ : gM) (v1 : Int) : GG gctM X 0 [(0, .inr (.inr 0)), (1, .inl v1)] [] σ (F_Mo_readCell σ v1) := by
  unfold F_Mo_readCell
  refine g_aload_n C D_Mo_readCell_0 rfl 0 rfl ?_
  refine g_getr (ci := 7) C 0 rfl kI7 rfl (by decide) rfl rfl wf_7_7 D_Mo_readCell_1 ?_
  refine g_iload_n C D_Mo_readCell_4 rfl 1 rfl ?_
  refine g_iald C rfl rfl rfl D_Mo_readCell_5 ?_
  refine g_callSi C [.inl (σ 1 v1)] [] (Or.inl rfl) rfl (fun _ h1 h2 h3 => c_Mo_mend h1 h2 h3) wc_7_138 (by decide) (Nat.le_of_ble_eq_true rfl) D_Mo_readCell_6 (fun s1 a2 => ?_)
  refine g_istore_n (L' := [(2, .inl a2), (0, .inr (.inr 0)), (1, .inl v1)]) C D_Mo_readCell_9 rfl (by decide) rfl ?_
  refine g_iload_n C D_Mo_readCell_10 rfl 0 rfl ?_
  refine g_if_ge (tgt := 17) C D_Mo_readCell_11 (by decide) ?_ ?_
  · refine g_aload_n C D_Mo_readCell_17 rfl 1 rfl ?_
    refine g_dup C D_Mo_readCell_18 rfl ?_
    refine g_get (ci := 7) C 4 (jz := 4) rfl rfl kI7 rfl (by decide) rfl rfl wf_7_141 rfl D_Mo_readCell_19 ?_
    refine g_iload_n C D_Mo_readCell_22 rfl 0 rfl ?_
    refine g_aload_n C D_Mo_readCell_23 rfl 1 rfl ?_
    refine g_getr (ci := 7) C 0 rfl kI7 rfl (by decide) rfl rfl wf_7_7 D_Mo_readCell_24 ?_
    refine g_iload_n C D_Mo_readCell_27 rfl 2 rfl ?_
    refine g_iald C rfl rfl rfl D_Mo_readCell_28 ?_
    refine g_icmp_ne (tgt := 36) C D_Mo_readCell_29 (by decide) ?_ ?_
    · refine g_iconst C D_Mo_readCell_36 ⟨by decide, by decide⟩ ?_
      refine g_sub [1, 2, 0] rfl ?_
      exact wj_Mo_readCell_37_0 C _ _ _ _ _
    · refine g_iconst C D_Mo_readCell_32 ⟨by decide, by decide⟩ ?_
      refine g_goto (tgt := 37) C D_Mo_readCell_33 (by decide) ?_
      refine g_sub [1, 2, 0] rfl ?_
      exact wj_Mo_readCell_37_0 C _ _ _ _ _
  · refine g_bipush C D_Mo_readCell_14 (by decide) ⟨by decide, by decide⟩ ?_
    exact g_iret C D_Mo_readCell_16
theorem c_Mo_readCell {σ : gM} {v1 : Int} {r : gR} (ho : F_Mo_readCell σ v1 = some r) (hok : gOk [.inr (.inr 0), .inl v1]) (hin : gIn gctM σ) : gCt gctM Y_Mo_readCell prog_9_method_11_code 3 (some .int) 2 43 [.inr (.inr 0), .inl v1] σ r := g_entry (by decide) rfl (Nat.le_of_ble_eq_true rfl) ho hok hin (fun X C => w_Mo_readCell C σ v1)
theorem D_Mo_limit_0 : decode prog_9_method_12_code 0 = .ok (.iload_n 1, 1) := by decide +kernel
theorem D_Mo_limit_1 : decode prog_9_method_12_code 1 = .ok (.iconst 0, 1) := by decide +kernel
theorem D_Mo_limit_2 : decode prog_9_method_12_code 2 = .ok (.bipush 60, 2) := by decide +kernel
theorem D_Mo_limit_4 : decode prog_9_method_12_code 4 = .ok (.invokestatic 147, 3) := by decide +kernel
theorem D_Mo_limit_7 : decode prog_9_method_12_code 7 = .ok (.ifCond .ne 5, 3) := by decide +kernel
theorem D_Mo_limit_10 : decode prog_9_method_12_code 10 = .ok (.iconst (-1), 1) := by decide +kernel
theorem D_Mo_limit_11 : decode prog_9_method_12_code 11 = .ok (.ireturn, 1) := by decide +kernel
theorem D_Mo_limit_12 : decode prog_9_method_12_code 12 = .ok (.aload_n 0, 1) := by decide +kernel
theorem D_Mo_limit_13 : decode prog_9_method_12_code 13 = .ok (.getfield 151, 3) := by decide +kernel
theorem D_Mo_limit_16 : decode prog_9_method_12_code 16 = .ok (.istore_n 2, 1) := by decide +kernel
theorem D_Mo_limit_17 : decode prog_9_method_12_code 17 = .ok (.aload_n 0, 1) := by decide +kernel
theorem D_Mo_limit_18 : decode prog_9_method_12_code 18 = .ok (.iload_n 1, 1) := by decide +kernel
theorem D_Mo_limit_19 : decode prog_9_method_12_code 19 = .ok (.putfield 151, 3) := by decide +kernel
theorem D_Mo_limit_22 : decode prog_9_method_12_code 22 = .ok (.iload_n 2, 1) := by decide +kernel
theorem D_Mo_limit_23 : decode prog_9_method_12_code 23 = .ok (.ireturn, 1) := by decide +kernel
def F_Mo_limit (σ : gM) (v1 : Int) : gO :=
  gk (F_Mo_in σ v1 0 60) fun s1 a2 =>
  if a2 = 0 then
  (some (s1, (-1)))
  else
  (gv (s1 0 1) fun a3 =>
  gp s1 0 1 v1 fun s4 =>
  some (s4, a3))
set_option maxHeartbeats 4000000 in
theorem w_Mo_limit {X : gX} (C : gC gctM prog_9_method_12_code kR7 3 1 22 (some .int) X) (σ : gM) (v1 : Int) : GG gctM X 0 [(0, .inr (.inr 0)), (1, .inl v1)] [] σ (F_Mo_limit σ v1) := by
  unfold F_Mo_limit
  refine g_iload_n C D_Mo_limit_0 rfl 1 rfl ?_
  refine g_iconst C D_Mo_limit_1 ⟨by decide, by decide⟩ ?_
  refine g_bipush C D_Mo_limit_2 (by decide) ⟨by decide, by decide⟩ ?_
  refine g_callSi C [.inl v1, .inl 0, .inl 60] [] (Or.inr rfl) rfl (fun _ h1 h2 h3 => c_Mo_in h1 h2 h3) wc_7_147 (by decide) (Nat.le_of_ble_eq_true rfl) D_Mo_limit_4 (fun s1 a2 => ?_)
  refine g_if_ne (tgt := 12) C D_Mo_limit_7 (by decide) ?_ ?_
  · refine g_aload_n C D_Mo_limit_12 rfl 0 rfl ?_
    refine g_get (ci := 7) C 1 (jz := 1) rfl rfl kI7 rfl (by decide) rfl rfl wf_7_151 rfl D_Mo_limit_13 ?_
    refine g_let C (fun a3 => ?_)
    refine g_istore_n (L' := [(2, .inl a3), (0, .inr (.inr 0)), (1, .inl v1)]) C D_Mo_limit_16 rfl (by decide) rfl ?_
    refine g_aload_n C D_Mo_limit_17 rfl 1 rfl ?_
    refine g_iload_n C D_Mo_limit_18 rfl 2 rfl ?_
    refine g_putI (ci := 7) C 1 (jz := 1) rfl rfl kI7 kO7 kN7 rfl (by decide) rfl rfl wf_7_151 D_Mo_limit_19 (fun s4 => ?_)
    refine g_iload_n C D_Mo_limit_22 rfl 0 rfl ?_
    exact g_iret C D_Mo_limit_23
  · refine g_iconst C D_Mo_limit_10 ⟨by decide, by decide⟩ ?_
    exact g_iret C D_Mo_limit_11
theorem c_Mo_limit {σ : gM} {v1 : Int} {r : gR} (ho : F_Mo_limit σ v1 = some r) (hok : gOk [.inr (.inr 0), .inl v1]) (hin : gIn gctM σ) : gCt gctM Y_Mo_limit prog_9_method_12_code 3 (some .int) 1 22 [.inr (.inr 0), .inl v1] σ r := g_entry (by decide) rfl (Nat.le_of_ble_eq_true rfl) ho hok hin (fun X C => w_Mo_limit C σ v1)
theorem D_Mo_flip_0 : decode prog_9_method_13_code 0 = .ok (.iload_n 1, 1) := by decide +kernel
theorem D_Mo_flip_1 : decode prog_9_method_13_code 1 = .ok (.iconst 0, 1) := by decide +kernel
theorem D_Mo_flip_2 : decode prog_9_method_13_code 2 = .ok (.sipush 511, 3) := by decide +kernel
theorem D_Mo_flip_5 : decode prog_9_method_13_code 5 = .ok (.invokestatic 147, 3) := by decide +kernel
theorem D_Mo_flip_8 : decode prog_9_method_13_code 8 = .ok (.ifCond .eq 13, 3) := by decide +kernel
theorem D_Mo_flip_11 : decode prog_9_method_13_code 11 = .ok (.iload_n 2, 1) := by decide +kernel
theorem D_Mo_flip_12 : decode prog_9_method_13_code 12 = .ok (.iconst 0, 1) := by decide +kernel
theorem D_Mo_flip_13 : decode prog_9_method_13_code 13 = .ok (.bipush 12, 2) := by decide +kernel
theorem D_Mo_flip_15 : decode prog_9_method_13_code 15 = .ok (.invokestatic 147, 3) := by decide +kernel
theorem D_Mo_flip_18 : decode prog_9_method_13_code 18 = .ok (.ifCond .ne 5, 3) := by decide +kernel
theorem D_Mo_flip_21 : decode prog_9_method_13_code 21 = .ok (.iconst (-1), 1) := by decide +kernel
theorem D_Mo_flip_22 : decode prog_9_method_13_code 22 = .ok (.ireturn, 1) := by decide +kernel
theorem D_Mo_flip_23 : decode prog_9_method_13_code 23 = .ok (.aload_n 0, 1) := by decide +kernel
theorem D_Mo_flip_24 : decode prog_9_method_13_code 24 = .ok (.getfield 7, 3) := by decide +kernel
theorem D_Mo_flip_27 : decode prog_9_method_13_code 27 = .ok (.iload_n 1, 1) := by decide +kernel
theorem D_Mo_flip_28 : decode prog_9_method_13_code 28 = .ok (.dup2, 1) := by decide +kernel
theorem D_Mo_flip_29 : decode prog_9_method_13_code 29 = .ok (.iaload, 1) := by decide +kernel
theorem D_Mo_flip_30 : decode prog_9_method_13_code 30 = .ok (.iconst 1, 1) := by decide +kernel
theorem D_Mo_flip_31 : decode prog_9_method_13_code 31 = .ok (.iload_n 2, 1) := by decide +kernel
theorem D_Mo_flip_32 : decode prog_9_method_13_code 32 = .ok (.ishl, 1) := by decide +kernel
theorem D_Mo_flip_33 : decode prog_9_method_13_code 33 = .ok (.ixor, 1) := by decide +kernel
theorem D_Mo_flip_34 : decode prog_9_method_13_code 34 = .ok (.iastore, 1) := by decide +kernel
theorem D_Mo_flip_35 : decode prog_9_method_13_code 35 = .ok (.aload_n 0, 1) := by decide +kernel
theorem D_Mo_flip_36 : decode prog_9_method_13_code 36 = .ok (.getfield 7, 3) := by decide +kernel
theorem D_Mo_flip_39 : decode prog_9_method_13_code 39 = .ok (.iload_n 1, 1) := by decide +kernel
theorem D_Mo_flip_40 : decode prog_9_method_13_code 40 = .ok (.iaload, 1) := by decide +kernel
theorem D_Mo_flip_41 : decode prog_9_method_13_code 41 = .ok (.ireturn, 1) := by decide +kernel
def j_Mo_flip_21 (σ : gM) : gO :=
  some (σ, (-1))
set_option maxHeartbeats 4000000 in
theorem wj_Mo_flip_21 {X : gX} (C : gC gctM prog_9_method_13_code kR7 3 1 22 (some .int) X) (σ : gM) : GG gctM X 21 [] [] σ (j_Mo_flip_21 σ) := by
  unfold j_Mo_flip_21
  refine g_iconst C D_Mo_flip_21 ⟨by decide, by decide⟩ ?_
  exact g_iret C D_Mo_flip_22
def F_Mo_flip (σ : gM) (v1 v2 : Int) : gO :=
  gk (F_Mo_in σ v1 0 511) fun s1 a2 =>
  if a2 = 0 then
  (j_Mo_flip_21 s1)
  else
  (gk (F_Mo_in s1 v2 0 12) fun s3 a4 =>
  if a4 = 0 then
  (j_Mo_flip_21 s3)
  else
  (gi v1 512 <|
  gw s3 1 512 v1 (gXor (s3 1 v1) (gShl 1 v2)) fun s5 =>
  gi v1 512 <|
  some (s5, (s5 1 v1))))
set_option maxHeartbeats 4000000 in
theorem w_Mo_flip {X : gX} (C : gC gctM prog_9_method_13_code kR7 3 1 22 (some .int) X) (σ : gM) (v1 v2 : Int) : GG gctM X 0 [(0, .inr (.inr 0)), (1, .inl v1), (2, .inl v2)] [] σ (F_Mo_flip σ v1 v2) := by
  unfold F_Mo_flip
  refine g_iload_n C D_Mo_flip_0 rfl 1 rfl ?_
  refine g_iconst C D_Mo_flip_1 ⟨by decide, by decide⟩ ?_
  refine g_sipush C D_Mo_flip_2 (by decide) ⟨by decide, by decide⟩ ?_
  refine g_callSi C [.inl v1, .inl 0, .inl 511] [] (Or.inr rfl) rfl (fun _ h1 h2 h3 => c_Mo_in h1 h2 h3) wc_7_147 (by decide) (Nat.le_of_ble_eq_true rfl) D_Mo_flip_5 (fun s1 a2 => ?_)
  refine g_if_eq (tgt := 21) C D_Mo_flip_8 (by decide) ?_ ?_
  · refine g_sub [] rfl ?_
    exact wj_Mo_flip_21 C _
  · refine g_iload_n C D_Mo_flip_11 rfl 2 rfl ?_
    refine g_iconst C D_Mo_flip_12 ⟨by decide, by decide⟩ ?_
    refine g_bipush C D_Mo_flip_13 (by decide) ⟨by decide, by decide⟩ ?_
    refine g_callSi C [.inl v2, .inl 0, .inl 12] [] (Or.inr rfl) rfl (fun _ h1 h2 h3 => c_Mo_in h1 h2 h3) wc_7_147 (by decide) (Nat.le_of_ble_eq_true rfl) D_Mo_flip_15 (fun s3 a4 => ?_)
    refine g_if_ne (tgt := 23) C D_Mo_flip_18 (by decide) ?_ ?_
    · refine g_aload_n C D_Mo_flip_23 rfl 0 rfl ?_
      refine g_getr (ci := 7) C 0 rfl kI7 rfl (by decide) rfl rfl wf_7_7 D_Mo_flip_24 ?_
      refine g_iload_n C D_Mo_flip_27 rfl 1 rfl ?_
      refine g_dup2 C D_Mo_flip_28 rfl rfl ?_
      refine g_iald C rfl rfl rfl D_Mo_flip_29 ?_
      refine g_iconst C D_Mo_flip_30 ⟨by decide, by decide⟩ ?_
      refine g_iload_n C D_Mo_flip_31 rfl 2 rfl ?_
      refine g_ishl C D_Mo_flip_32 ?_
      refine g_ixor C D_Mo_flip_33 ?_
      refine g_iast C rfl rfl D_Mo_flip_34 (fun s5 => ?_)
      refine g_aload_n C D_Mo_flip_35 rfl 0 rfl ?_
      refine g_getr (ci := 7) C 0 rfl kI7 rfl (by decide) rfl rfl wf_7_7 D_Mo_flip_36 ?_
      refine g_iload_n C D_Mo_flip_39 rfl 1 rfl ?_
      refine g_iald C rfl rfl rfl D_Mo_flip_40 ?_
      exact g_iret C D_Mo_flip_41
    · refine g_sub [] rfl ?_
      exact wj_Mo_flip_21 C _
theorem c_Mo_flip {σ : gM} {v1 v2 : Int} {r : gR} (ho : F_Mo_flip σ v1 v2 = some r) (hok : gOk [.inr (.inr 0), .inl v1, .inl v2]) (hin : gIn gctM σ) : gCt gctM Y_Mo_flip prog_9_method_13_code 3 (some .int) 1 22 [.inr (.inr 0), .inl v1, .inl v2] σ r := g_entry (by decide) rfl (Nat.le_of_ble_eq_true rfl) ho hok hin (fun X C => w_Mo_flip C σ v1 v2)
theorem D_Mo_refresh_0 : decode prog_9_method_14_code 0 = .ok (.iload_n 1, 1) := by decide +kernel
theorem D_Mo_refresh_1 : decode prog_9_method_14_code 1 = .ok (.iconst 0, 1) := by decide +kernel
theorem D_Mo_refresh_2 : decode prog_9_method_14_code 2 = .ok (.iconst 3, 1) := by decide +kernel
theorem D_Mo_refresh_3 : decode prog_9_method_14_code 3 = .ok (.invokestatic 147, 3) := by decide +kernel
theorem D_Mo_refresh_6 : decode prog_9_method_14_code 6 = .ok (.ifCond .eq 13, 3) := by decide +kernel
theorem D_Mo_refresh_9 : decode prog_9_method_14_code 9 = .ok (.iload_n 2, 1) := by decide +kernel
theorem D_Mo_refresh_10 : decode prog_9_method_14_code 10 = .ok (.iconst 0, 1) := by decide +kernel
theorem D_Mo_refresh_11 : decode prog_9_method_14_code 11 = .ok (.bipush 15, 2) := by decide +kernel
theorem D_Mo_refresh_13 : decode prog_9_method_14_code 13 = .ok (.invokestatic 147, 3) := by decide +kernel
theorem D_Mo_refresh_16 : decode prog_9_method_14_code 16 = .ok (.ifCond .ne 5, 3) := by decide +kernel
theorem D_Mo_refresh_19 : decode prog_9_method_14_code 19 = .ok (.iconst (-1), 1) := by decide +kernel
theorem D_Mo_refresh_20 : decode prog_9_method_14_code 20 = .ok (.ireturn, 1) := by decide +kernel
theorem D_Mo_refresh_21 : decode prog_9_method_14_code 21 = .ok (.aload_n 0, 1) := by decide +kernel
theorem D_Mo_refresh_22 : decode prog_9_method_14_code 22 = .ok (.getfield 13, 3) := by decide +kernel
theorem D_Mo_refresh_25 : decode prog_9_method_14_code 25 = .ok (.iconst 4, 1) := by decide +kernel
theorem D_Mo_refresh_26 : decode prog_9_method_14_code 26 = .ok (.iload_n 2, 1) := by decide +kernel
theorem D_Mo_refresh_27 : decode prog_9_method_14_code 27 = .ok (.imul, 1) := by decide +kernel
theorem D_Mo_refresh_28 : decode prog_9_method_14_code 28 = .ok (.iload_n 1, 1) := by decide +kernel
theorem D_Mo_refresh_29 : decode prog_9_method_14_code 29 = .ok (.iadd, 1) := by decide +kernel
theorem D_Mo_refresh_30 : decode prog_9_method_14_code 30 = .ok (.iaload, 1) := by decide +kernel
theorem D_Mo_refresh_31 : decode prog_9_method_14_code 31 = .ok (.istore_n 3, 1) := by decide +kernel
theorem D_Mo_refresh_32 : decode prog_9_method_14_code 32 = .ok (.aload_n 0, 1) := by decide +kernel
theorem D_Mo_refresh_33 : decode prog_9_method_14_code 33 = .ok (.getfield 13, 3) := by decide +kernel
theorem D_Mo_refresh_36 : decode prog_9_method_14_code 36 = .ok (.iconst 4, 1) := by decide +kernel
theorem D_Mo_refresh_37 : decode prog_9_method_14_code 37 = .ok (.iload_n 2, 1) := by decide +kernel
theorem D_Mo_refresh_38 : decode prog_9_method_14_code 38 = .ok (.imul, 1) := by decide +kernel
theorem D_Mo_refresh_39 : decode prog_9_method_14_code 39 = .ok (.iload_n 1, 1) := by decide +kernel
theorem D_Mo_refresh_40 : decode prog_9_method_14_code 40 = .ok (.iadd, 1) := by decide +kernel
theorem D_Mo_refresh_41 : decode prog_9_method_14_code 41 = .ok (.iconst 0, 1) := by decide +kernel
theorem D_Mo_refresh_42 : decode prog_9_method_14_code 42 = .ok (.iastore, 1) := by decide +kernel
theorem D_Mo_refresh_43 : decode prog_9_method_14_code 43 = .ok (.iload_n 3, 1) := by decide +kernel
theorem D_Mo_refresh_44 : decode prog_9_method_14_code 44 = .ok (.ireturn, 1) := by decide +kernel
def j_Mo_refresh_19 (σ : gM) : gO :=
  some (σ, (-1))
set_option maxHeartbeats 4000000 in
theorem wj_Mo_refresh_19 {X : gX} (C : gC gctM prog_9_method_14_code kR7 4 1 22 (some .int) X) (σ : gM) : GG gctM X 19 [] [] σ (j_Mo_refresh_19 σ) := by
  unfold j_Mo_refresh_19
  refine g_iconst C D_Mo_refresh_19 ⟨by decide, by decide⟩ ?_
  exact g_iret C D_Mo_refresh_20
def F_Mo_refresh (σ : gM) (v1 v2 : Int) : gO :=
  gk (F_Mo_in σ v1 0 3) fun s1 a2 =>
  if a2 = 0 then
  (j_Mo_refresh_19 s1)
  else
  (gk (F_Mo_in s1 v2 0 15) fun s3 a4 =>
  if a4 = 0 then
  (j_Mo_refresh_19 s3)
  else
  (ga (4 * v2) fun a5 =>
  ga (a5 + v1) fun a6 =>
  gi a6 64 <|
  gv (s3 2 a6) fun a7 =>
  ga (4 * v2) fun a8 =>
  ga (a8 + v1) fun a9 =>
  gw s3 2 64 a9 0 fun s10 =>
  some (s10, a7)))
set_option maxHeartbeats 4000000 in
theorem w_Mo_refresh {X : gX} (C : gC gctM prog_9_method_14_code kR7 4 1 22 (some .int) X) (σ : gM) (v1 v2 : Int) : GG gctM X 0 [(0, .inr (.inr 0)), (1, .inl v1), (2, .inl v2)] [] σ (F_Mo_refresh σ v1 v2) := by
  unfold F_Mo_refresh
  refine g_iload_n C D_Mo_refresh_0 rfl 1 rfl ?_
  refine g_iconst C D_Mo_refresh_1 ⟨by decide, by decide⟩ ?_
  refine g_iconst C D_Mo_refresh_2 ⟨by decide, by decide⟩ ?_
  refine g_callSi C [.inl v1, .inl 0, .inl 3] [] (Or.inr rfl) rfl (fun _ h1 h2 h3 => c_Mo_in h1 h2 h3) wc_7_147 (by decide) (Nat.le_of_ble_eq_true rfl) D_Mo_refresh_3 (fun s1 a2 => ?_)
  refine g_if_eq (tgt := 19) C D_Mo_refresh_6 (by decide) ?_ ?_
  · refine g_sub [] rfl ?_
    exact wj_Mo_refresh_19 C _
  · refine g_iload_n C D_Mo_refresh_9 rfl 2 rfl ?_
    refine g_iconst C D_Mo_refresh_10 ⟨by decide, by decide⟩ ?_
    refine g_bipush C D_Mo_refresh_11 (by decide) ⟨by decide, by decide⟩ ?_
    refine g_callSi C [.inl v2, .inl 0, .inl 15] [] (Or.inr rfl) rfl (fun _ h1 h2 h3 => c_Mo_in h1 h2 h3) wc_7_147 (by decide) (Nat.le_of_ble_eq_true rfl) D_Mo_refresh_13 (fun s3 a4 => ?_)
    refine g_if_ne (tgt := 21) C D_Mo_refresh_16 (by decide) ?_ ?_
    · refine g_aload_n C D_Mo_refresh_21 rfl 0 rfl ?_
      refine g_getr (ci := 7) C 2 rfl kI7 rfl (by decide) rfl rfl wf_7_13 D_Mo_refresh_22 ?_
      refine g_iconst C D_Mo_refresh_25 ⟨by decide, by decide⟩ ?_
      refine g_iload_n C D_Mo_refresh_26 rfl 2 rfl ?_
      refine g_imul C D_Mo_refresh_27 (fun a5 => ?_)
      refine g_iload_n C D_Mo_refresh_28 rfl 1 rfl ?_
      refine g_iadd C D_Mo_refresh_29 (fun a6 => ?_)
      refine g_iald C rfl rfl rfl D_Mo_refresh_30 ?_
      refine g_let C (fun a7 => ?_)
      refine g_istore_n (L' := [(3, .inl a7), (0, .inr (.inr 0)), (1, .inl v1), (2, .inl v2)]) C D_Mo_refresh_31 rfl (by decide) rfl ?_
      refine g_aload_n C D_Mo_refresh_32 rfl 1 rfl ?_
      refine g_getr (ci := 7) C 2 rfl kI7 rfl (by decide) rfl rfl wf_7_13 D_Mo_refresh_33 ?_
      refine g_iconst C D_Mo_refresh_36 ⟨by decide, by decide⟩ ?_
      refine g_iload_n C D_Mo_refresh_37 rfl 3 rfl ?_
      refine g_imul C D_Mo_refresh_38 (fun a8 => ?_)
      refine g_iload_n C D_Mo_refresh_39 rfl 2 rfl ?_
      refine g_iadd C D_Mo_refresh_40 (fun a9 => ?_)
      refine g_iconst C D_Mo_refresh_41 ⟨by decide, by decide⟩ ?_
      refine g_iast C rfl rfl D_Mo_refresh_42 (fun s10 => ?_)
      refine g_iload_n C D_Mo_refresh_43 rfl 0 rfl ?_
      exact g_iret C D_Mo_refresh_44
    · refine g_sub [] rfl ?_
      exact wj_Mo_refresh_19 C _
theorem c_Mo_refresh {σ : gM} {v1 v2 : Int} {r : gR} (ho : F_Mo_refresh σ v1 v2 = some r) (hok : gOk [.inr (.inr 0), .inl v1, .inl v2]) (hin : gIn gctM σ) : gCt gctM Y_Mo_refresh prog_9_method_14_code 4 (some .int) 1 22 [.inr (.inr 0), .inl v1, .inl v2] σ r := g_entry (by decide) rfl (Nat.le_of_ble_eq_true rfl) ho hok hin (fun X C => w_Mo_refresh C σ v1 v2)
theorem D_Mo_cell_0 : decode prog_9_method_15_code 0 = .ok (.iload_n 1, 1) := by decide +kernel
theorem D_Mo_cell_1 : decode prog_9_method_15_code 1 = .ok (.iconst 0, 1) := by decide +kernel
theorem D_Mo_cell_2 : decode prog_9_method_15_code 2 = .ok (.sipush 511, 3) := by decide +kernel
theorem D_Mo_cell_5 : decode prog_9_method_15_code 5 = .ok (.invokestatic 147, 3) := by decide +kernel
theorem D_Mo_cell_8 : decode prog_9_method_15_code 8 = .ok (.ifCond .eq 12, 3) := by decide +kernel
theorem D_Mo_cell_11 : decode prog_9_method_15_code 11 = .ok (.iload_n 2, 1) := by decide +kernel
theorem D_Mo_cell_12 : decode prog_9_method_15_code 12 = .ok (.iconst 0, 1) := by decide +kernel
theorem D_Mo_cell_13 : decode prog_9_method_15_code 13 = .ok (.iconst 1, 1) := by decide +kernel
theorem D_Mo_cell_14 : decode prog_9_method_15_code 14 = .ok (.invokestatic 147, 3) := by decide +kernel
theorem D_Mo_cell_17 : decode prog_9_method_15_code 17 = .ok (.ifCond .ne 5, 3) := by decide +kernel
theorem D_Mo_cell_20 : decode prog_9_method_15_code 20 = .ok (.iconst (-1), 1) := by decide +kernel
theorem D_Mo_cell_21 : decode prog_9_method_15_code 21 = .ok (.ireturn, 1) := by decide +kernel
theorem D_Mo_cell_22 : decode prog_9_method_15_code 22 = .ok (.iload_n 2, 1) := by decide +kernel
theorem D_Mo_cell_23 : decode prog_9_method_15_code 23 = .ok (.ifCond .ne 10, 3) := by decide +kernel
theorem D_Mo_cell_26 : decode prog_9_method_15_code 26 = .ok (.aload_n 0, 1) := by decide +kernel
theorem D_Mo_cell_27 : decode prog_9_method_15_code 27 = .ok (.getfield 7, 3) := by decide +kernel
theorem D_Mo_cell_30 : decode prog_9_method_15_code 30 = .ok (.iload_n 1, 1) := by decide +kernel
theorem D_Mo_cell_31 : decode prog_9_method_15_code 31 = .ok (.iaload, 1) := by decide +kernel
theorem D_Mo_cell_32 : decode prog_9_method_15_code 32 = .ok (.ireturn, 1) := by decide +kernel
theorem D_Mo_cell_33 : decode prog_9_method_15_code 33 = .ok (.aload_n 0, 1) := by decide +kernel
theorem D_Mo_cell_34 : decode prog_9_method_15_code 34 = .ok (.getfield 7, 3) := by decide +kernel
theorem D_Mo_cell_37 : decode prog_9_method_15_code 37 = .ok (.iload_n 1, 1) := by decide +kernel
theorem D_Mo_cell_38 : decode prog_9_method_15_code 38 = .ok (.iaload, 1) := by decide +kernel
theorem D_Mo_cell_39 : decode prog_9_method_15_code 39 = .ok (.invokestatic 138, 3) := by decide +kernel
theorem D_Mo_cell_42 : decode prog_9_method_15_code 42 = .ok (.istore_n 3, 1) := by decide +kernel
theorem D_Mo_cell_43 : decode prog_9_method_15_code 43 = .ok (.iload_n 3, 1) := by decide +kernel
theorem D_Mo_cell_44 : decode prog_9_method_15_code 44 = .ok (.ifCond .ge 8, 3) := by decide +kernel
theorem D_Mo_cell_47 : decode prog_9_method_15_code 47 = .ok (.bipush (-5), 2) := by decide +kernel
theorem D_Mo_cell_49 : decode prog_9_method_15_code 49 = .ok (.goto 7, 3) := by decide +kernel
theorem D_Mo_cell_52 : decode prog_9_method_15_code 52 = .ok (.iload_n 3, 1) := by decide +kernel
theorem D_Mo_cell_53 : decode prog_9_method_15_code 53 = .ok (.invokestatic 144, 3) := by decide +kernel
theorem D_Mo_cell_56 : decode prog_9_method_15_code 56 = .ok (.ireturn, 1) := by decide +kernel
def j_Mo_cell_20 (σ : gM) : gO :=
  some (σ, (-1))
set_option maxHeartbeats 4000000 in
theorem wj_Mo_cell_20 {X : gX} (C : gC gctM prog_9_method_15_code kR7 4 2 43 (some .int) X) (σ : gM) : GG gctM X 20 [] [] σ (j_Mo_cell_20 σ) := by
  unfold j_Mo_cell_20
  refine g_iconst C D_Mo_cell_20 ⟨by decide, by decide⟩ ?_
  exact g_iret C D_Mo_cell_21
def j_Mo_cell_56 (σ : gM) (t0 : Int) : gO :=
  some (σ, t0)
set_option maxHeartbeats 4000000 in
theorem wj_Mo_cell_56 {X : gX} (C : gC gctM prog_9_method_15_code kR7 4 2 43 (some .int) X) (σ : gM) (t0 : Int) : GG gctM X 56 [] [.inl t0] σ (j_Mo_cell_56 σ t0) := by
  unfold j_Mo_cell_56
  exact g_iret C D_Mo_cell_56
def F_Mo_cell (σ : gM) (v1 v2 : Int) : gO :=
  gk (F_Mo_in σ v1 0 511) fun s1 a2 =>
  if a2 = 0 then
  (j_Mo_cell_20 s1)
  else
  (gk (F_Mo_in s1 v2 0 1) fun s3 a4 =>
  if a4 = 0 then
  (j_Mo_cell_20 s3)
  else
  (if v2 = 0 then
  (gi v1 512 <|
  some (s3, (s3 1 v1)))
  else
  (gi v1 512 <|
  gk (F_Mo_mend s3 (s3 1 v1)) fun s5 a6 =>
  if a6 < 0 then
  (j_Mo_cell_56 s5 (-5))
  else
  (gk (F_Mo_value s5 a6) fun s7 a8 =>
  j_Mo_cell_56 s7 a8))))
set_option maxHeartbeats 4000000 in
theorem w_Mo_cell {X : gX} (C : gC gctM prog_9_method_15_code kR7 4 2 43 (some .int) X) (σ : gM) (v1 v2 : Int) : GG gctM X 0 [(0, .inr (.inr 0)), (1, .inl v1), (2, .inl v2)] [] σ (F_Mo_cell σ v1 v2) := by
  unfold F_Mo_cell
  refine g_iload_n C D_Mo_cell_0 rfl 1 rfl ?_
  refine g_iconst C D_Mo_cell_1 ⟨by decide, by decide⟩ ?_
  refine g_sipush C D_Mo_cell_2 (by decide) ⟨by decide, by decide⟩ ?_
  refine g_callSi C [.inl v1, .inl 0, .inl 511] [] (Or.inr rfl) rfl (fun _ h1 h2 h3 => c_Mo_in h1 h2 h3) wc_7_147 (by decide) (Nat.le_of_ble_eq_true rfl) D_Mo_cell_5 (fun s1 a2 => ?_)
  refine g_if_eq (tgt := 20) C D_Mo_cell_8 (by decide) ?_ ?_
  · refine g_sub [] rfl ?_
    exact wj_Mo_cell_20 C _
  · refine g_iload_n C D_Mo_cell_11 rfl 2 rfl ?_
    refine g_iconst C D_Mo_cell_12 ⟨by decide, by decide⟩ ?_
    refine g_iconst C D_Mo_cell_13 ⟨by decide, by decide⟩ ?_
    refine g_callSi C [.inl v2, .inl 0, .inl 1] [] (Or.inr rfl) rfl (fun _ h1 h2 h3 => c_Mo_in h1 h2 h3) wc_7_147 (by decide) (Nat.le_of_ble_eq_true rfl) D_Mo_cell_14 (fun s3 a4 => ?_)
    refine g_if_ne (tgt := 22) C D_Mo_cell_17 (by decide) ?_ ?_
    · refine g_iload_n C D_Mo_cell_22 rfl 2 rfl ?_
      refine g_if_ne (tgt := 33) C D_Mo_cell_23 (by decide) ?_ ?_
      · refine g_aload_n C D_Mo_cell_33 rfl 0 rfl ?_
        refine g_getr (ci := 7) C 0 rfl kI7 rfl (by decide) rfl rfl wf_7_7 D_Mo_cell_34 ?_
        refine g_iload_n C D_Mo_cell_37 rfl 1 rfl ?_
        refine g_iald C rfl rfl rfl D_Mo_cell_38 ?_
        refine g_callSi C [.inl (s3 1 v1)] [] (Or.inl rfl) rfl (fun _ h1 h2 h3 => c_Mo_mend h1 h2 h3) wc_7_138 (by decide) (Nat.le_of_ble_eq_true rfl) D_Mo_cell_39 (fun s5 a6 => ?_)
        refine g_istore_n (L' := [(3, .inl a6), (0, .inr (.inr 0)), (1, .inl v1), (2, .inl v2)]) C D_Mo_cell_42 rfl (by decide) rfl ?_
        refine g_iload_n C D_Mo_cell_43 rfl 0 rfl ?_
        refine g_if_ge (tgt := 52) C D_Mo_cell_44 (by decide) ?_ ?_
        · refine g_iload_n C D_Mo_cell_52 rfl 0 rfl ?_
          refine g_callSi C [.inl a6] [] (Or.inl rfl) rfl (fun _ h1 h2 h3 => c_Mo_value h1 h2 h3) wc_7_144 (by decide) (Nat.le_of_ble_eq_true rfl) D_Mo_cell_53 (fun s7 a8 => ?_)
          refine g_sub [] rfl ?_
          exact wj_Mo_cell_56 C _ _
        · refine g_bipush C D_Mo_cell_47 (by decide) ⟨by decide, by decide⟩ ?_
          refine g_goto (tgt := 56) C D_Mo_cell_49 (by decide) ?_
          refine g_sub [] rfl ?_
          exact wj_Mo_cell_56 C _ _
      · refine g_aload_n C D_Mo_cell_26 rfl 0 rfl ?_
        refine g_getr (ci := 7) C 0 rfl kI7 rfl (by decide) rfl rfl wf_7_7 D_Mo_cell_27 ?_
        refine g_iload_n C D_Mo_cell_30 rfl 1 rfl ?_
        refine g_iald C rfl rfl rfl D_Mo_cell_31 ?_
        exact g_iret C D_Mo_cell_32
    · refine g_sub [] rfl ?_
      exact wj_Mo_cell_20 C _
theorem c_Mo_cell {σ : gM} {v1 v2 : Int} {r : gR} (ho : F_Mo_cell σ v1 v2 = some r) (hok : gOk [.inr (.inr 0), .inl v1, .inl v2]) (hin : gIn gctM σ) : gCt gctM Y_Mo_cell prog_9_method_15_code 4 (some .int) 2 43 [.inr (.inr 0), .inl v1, .inl v2] σ r := g_entry (by decide) rfl (Nat.le_of_ble_eq_true rfl) ho hok hin (fun X C => w_Mo_cell C σ v1 v2)
theorem D_Mo_open_0 : decode prog_9_method_16_code 0 = .ok (.iload_n 1, 1) := by decide +kernel
theorem D_Mo_open_1 : decode prog_9_method_16_code 1 = .ok (.iconst 0, 1) := by decide +kernel
theorem D_Mo_open_2 : decode prog_9_method_16_code 2 = .ok (.iconst 3, 1) := by decide +kernel
theorem D_Mo_open_3 : decode prog_9_method_16_code 3 = .ok (.invokestatic 147, 3) := by decide +kernel
theorem D_Mo_open_6 : decode prog_9_method_16_code 6 = .ok (.ifCond .eq 12, 3) := by decide +kernel
theorem D_Mo_open_9 : decode prog_9_method_16_code 9 = .ok (.aload_n 0, 1) := by decide +kernel
theorem D_Mo_open_10 : decode prog_9_method_16_code 10 = .ok (.getfield 16, 3) := by decide +kernel
theorem D_Mo_open_13 : decode prog_9_method_16_code 13 = .ok (.iload_n 1, 1) := by decide +kernel
theorem D_Mo_open_14 : decode prog_9_method_16_code 14 = .ok (.iaload, 1) := by decide +kernel
theorem D_Mo_open_15 : decode prog_9_method_16_code 15 = .ok (.goto 4, 3) := by decide +kernel
theorem D_Mo_open_18 : decode prog_9_method_16_code 18 = .ok (.iconst (-1), 1) := by decide +kernel
theorem D_Mo_open_19 : decode prog_9_method_16_code 19 = .ok (.ireturn, 1) := by decide +kernel
def j_Mo_open_19 (σ : gM) (t0 : Int) : gO :=
  some (σ, t0)
set_option maxHeartbeats 4000000 in
theorem wj_Mo_open_19 {X : gX} (C : gC gctM prog_9_method_16_code kR7 2 1 22 (some .int) X) (σ : gM) (t0 : Int) : GG gctM X 19 [] [.inl t0] σ (j_Mo_open_19 σ t0) := by
  unfold j_Mo_open_19
  exact g_iret C D_Mo_open_19
def F_Mo_open (σ : gM) (v1 : Int) : gO :=
  gk (F_Mo_in σ v1 0 3) fun s1 a2 =>
  if a2 = 0 then
  (j_Mo_open_19 s1 (-1))
  else
  (gi v1 4 <|
  j_Mo_open_19 s1 (s1 3 v1))
set_option maxHeartbeats 4000000 in
theorem w_Mo_open {X : gX} (C : gC gctM prog_9_method_16_code kR7 2 1 22 (some .int) X) (σ : gM) (v1 : Int) : GG gctM X 0 [(0, .inr (.inr 0)), (1, .inl v1)] [] σ (F_Mo_open σ v1) := by
  unfold F_Mo_open
  refine g_iload_n C D_Mo_open_0 rfl 1 rfl ?_
  refine g_iconst C D_Mo_open_1 ⟨by decide, by decide⟩ ?_
  refine g_iconst C D_Mo_open_2 ⟨by decide, by decide⟩ ?_
  refine g_callSi C [.inl v1, .inl 0, .inl 3] [] (Or.inr rfl) rfl (fun _ h1 h2 h3 => c_Mo_in h1 h2 h3) wc_7_147 (by decide) (Nat.le_of_ble_eq_true rfl) D_Mo_open_3 (fun s1 a2 => ?_)
  refine g_if_eq (tgt := 18) C D_Mo_open_6 (by decide) ?_ ?_
  · refine g_iconst C D_Mo_open_18 ⟨by decide, by decide⟩ ?_
    refine g_sub [] rfl ?_
    exact wj_Mo_open_19 C _ _
  · refine g_aload_n C D_Mo_open_9 rfl 0 rfl ?_
    refine g_getr (ci := 7) C 3 rfl kI7 rfl (by decide) rfl rfl wf_7_16 D_Mo_open_10 ?_
    refine g_iload_n C D_Mo_open_13 rfl 1 rfl ?_
    refine g_iald C rfl rfl rfl D_Mo_open_14 ?_
    refine g_goto (tgt := 19) C D_Mo_open_15 (by decide) ?_
    refine g_sub [] rfl ?_
    exact wj_Mo_open_19 C _ _
theorem c_Mo_open {σ : gM} {v1 : Int} {r : gR} (ho : F_Mo_open σ v1 = some r) (hok : gOk [.inr (.inr 0), .inl v1]) (hin : gIn gctM σ) : gCt gctM Y_Mo_open prog_9_method_16_code 2 (some .int) 1 22 [.inr (.inr 0), .inl v1] σ r := g_entry (by decide) rfl (Nat.le_of_ble_eq_true rfl) ho hok hin (fun X C => w_Mo_open C σ v1)
theorem D_Mo_ones_0 : decode prog_9_method_17_code 0 = .ok (.iconst 0, 1) := by decide +kernel
theorem D_Mo_ones_1 : decode prog_9_method_17_code 1 = .ok (.istore_n 1, 1) := by decide +kernel
theorem D_Mo_ones_2 : decode prog_9_method_17_code 2 = .ok (.iconst 0, 1) := by decide +kernel
theorem D_Mo_ones_3 : decode prog_9_method_17_code 3 = .ok (.istore_n 2, 1) := by decide +kernel
theorem D_Mo_ones_4 : decode prog_9_method_17_code 4 = .ok (.iload_n 2, 1) := by decide +kernel
theorem D_Mo_ones_5 : decode prog_9_method_17_code 5 = .ok (.bipush 13, 2) := by decide +kernel
theorem D_Mo_ones_7 : decode prog_9_method_17_code 7 = .ok (.if_icmp .ge 17, 3) := by decide +kernel
theorem D_Mo_ones_10 : decode prog_9_method_17_code 10 = .ok (.iload_n 1, 1) := by decide +kernel
theorem D_Mo_ones_11 : decode prog_9_method_17_code 11 = .ok (.iload_n 0, 1) := by decide +kernel
theorem D_Mo_ones_12 : decode prog_9_method_17_code 12 = .ok (.iload_n 2, 1) := by decide +kernel
theorem D_Mo_ones_13 : decode prog_9_method_17_code 13 = .ok (.ishr, 1) := by decide +kernel
theorem D_Mo_ones_14 : decode prog_9_method_17_code 14 = .ok (.iconst 1, 1) := by decide +kernel
theorem D_Mo_ones_15 : decode prog_9_method_17_code 15 = .ok (.iand, 1) := by decide +kernel
theorem D_Mo_ones_16 : decode prog_9_method_17_code 16 = .ok (.iadd, 1) := by decide +kernel
theorem D_Mo_ones_17 : decode prog_9_method_17_code 17 = .ok (.istore_n 1, 1) := by decide +kernel
theorem D_Mo_ones_18 : decode prog_9_method_17_code 18 = .ok (.iinc 2 1, 3) := by decide +kernel
theorem D_Mo_ones_21 : decode prog_9_method_17_code 21 = .ok (.goto (-17), 3) := by decide +kernel
theorem D_Mo_ones_24 : decode prog_9_method_17_code 24 = .ok (.iload_n 1, 1) := by decide +kernel
theorem D_Mo_ones_25 : decode prog_9_method_17_code 25 = .ok (.ireturn, 1) := by decide +kernel
def l_Mo_ones_4 (p0 : Int) (rec : gM → Int → Int → gO) (σ : gM) (v1 v2 : Int) : gO :=
  if v2 < 13 then
  (ga (v1 + (gAnd (gShr p0 v2) 1)) fun a1 =>
  ga (v2 + 1) fun a2 =>
  rec σ a1 a2)
  else
  (some (σ, v1))
set_option maxHeartbeats 4000000 in
theorem wl_Mo_ones_4 {X : gX} (C : gC gctM prog_9_method_17_code kR7 3 0 0 (some .int) X) {p0 : Int} : ∀ (n : Nat) (σ : gM) (a0 a1 : Int), GG gctM X 4 [(0, .inl p0), (1, .inl a0), (2, .inl a1)] [] σ (gl2 (l_Mo_ones_4 p0) n σ a0 a1) := by
  refine gl2_run (P := fun σ a0 a1 o => GG gctM X 4 [(0, .inl p0), (1, .inl a0), (2, .inl a1)] [] σ o) (fun _ _ _ => g_none) (fun rec hrec σ v1 v2 => ?_)
  unfold l_Mo_ones_4
  refine g_iload_n C D_Mo_ones_4 rfl 2 rfl ?_
  refine g_bipush C D_Mo_ones_5 (by decide) ⟨by decide, by decide⟩ ?_
  refine g_icmp_ge (tgt := 24) C D_Mo_ones_7 (by decide) ?_ ?_
  · refine g_iload_n C D_Mo_ones_24 rfl 1 rfl ?_
    exact g_iret C D_Mo_ones_25
  · refine g_iload_n C D_Mo_ones_10 rfl 1 rfl ?_
    refine g_iload_n C D_Mo_ones_11 rfl 0 rfl ?_
    refine g_iload_n C D_Mo_ones_12 rfl 2 rfl ?_
    refine g_ishr C D_Mo_ones_13 ?_
    refine g_iconst C D_Mo_ones_14 ⟨by decide, by decide⟩ ?_
    refine g_iand C D_Mo_ones_15 ?_
    refine g_iadd C D_Mo_ones_16 (fun a1 => ?_)
    refine g_istore_n (L' := [(1, .inl a1), (0, .inl p0), (2, .inl v2)]) C D_Mo_ones_17 rfl (by decide) rfl ?_
    refine g_iinc (t := 2) (L' := fun z => [(2, .inl z), (1, .inl a1), (0, .inl p0)]) C D_Mo_ones_18 rfl (by decide) (fun _ => rfl) (fun a2 => ?_)
    refine g_goto (tgt := 4) C D_Mo_ones_21 (by decide) ?_
    refine g_sub [2, 1, 0] rfl ?_
    exact hrec _ _ _
def F_Mo_ones (σ : gM) (v0 : Int) : gO :=
  gl2 (l_Mo_ones_4 v0) 200 σ 0 0
set_option maxHeartbeats 4000000 in
theorem w_Mo_ones {X : gX} (C : gC gctM prog_9_method_17_code kR7 3 0 0 (some .int) X) (σ : gM) (v0 : Int) : GG gctM X 0 [(0, .inl v0)] [] σ (F_Mo_ones σ v0) := by
  unfold F_Mo_ones
  refine g_iconst C D_Mo_ones_0 ⟨by decide, by decide⟩ ?_
  refine g_istore_n (L' := [(1, .inl 0), (0, .inl v0)]) C D_Mo_ones_1 rfl (by decide) rfl ?_
  refine g_iconst C D_Mo_ones_2 ⟨by decide, by decide⟩ ?_
  refine g_istore_n (L' := [(2, .inl 0), (1, .inl 0), (0, .inl v0)]) C D_Mo_ones_3 rfl (by decide) rfl ?_
  refine g_sub [2, 1, 0] rfl ?_
  exact wl_Mo_ones_4 C 200 _ _ _
theorem c_Mo_ones {σ : gM} {v0 : Int} {r : gR} (ho : F_Mo_ones σ v0 = some r) (hok : gOk [.inl v0]) (hin : gIn gctM σ) : gCt gctM Y_Mo_ones prog_9_method_17_code 3 (some .int) 0 0 [.inl v0] σ r := g_entry (by decide) rfl (Nat.le_of_ble_eq_true rfl) ho hok hin (fun X C => w_Mo_ones C σ v0)
theorem D_Mo_patterns_0 : decode prog_9_method_18_code 0 = .ok (.iload_n 1, 1) := by decide +kernel
theorem D_Mo_patterns_1 : decode prog_9_method_18_code 1 = .ok (.iconst 0, 1) := by decide +kernel
theorem D_Mo_patterns_2 : decode prog_9_method_18_code 2 = .ok (.bipush 13, 2) := by decide +kernel
theorem D_Mo_patterns_4 : decode prog_9_method_18_code 4 = .ok (.invokestatic 147, 3) := by decide +kernel
theorem D_Mo_patterns_7 : decode prog_9_method_18_code 7 = .ok (.ifCond .eq 12, 3) := by decide +kernel
theorem D_Mo_patterns_10 : decode prog_9_method_18_code 10 = .ok (.iload_n 2, 1) := by decide +kernel
theorem D_Mo_patterns_11 : decode prog_9_method_18_code 11 = .ok (.iconst 0, 1) := by decide +kernel
theorem D_Mo_patterns_12 : decode prog_9_method_18_code 12 = .ok (.iconst 2, 1) := by decide +kernel
theorem D_Mo_patterns_13 : decode prog_9_method_18_code 13 = .ok (.invokestatic 147, 3) := by decide +kernel
theorem D_Mo_patterns_16 : decode prog_9_method_18_code 16 = .ok (.ifCond .ne 5, 3) := by decide +kernel
theorem D_Mo_patterns_19 : decode prog_9_method_18_code 19 = .ok (.iconst (-1), 1) := by decide +kernel
theorem D_Mo_patterns_20 : decode prog_9_method_18_code 20 = .ok (.ireturn, 1) := by decide +kernel
theorem D_Mo_patterns_21 : decode prog_9_method_18_code 21 = .ok (.iconst 0, 1) := by decide +kernel
theorem D_Mo_patterns_22 : decode prog_9_method_18_code 22 = .ok (.istore_n 3, 1) := by decide +kernel
theorem D_Mo_patterns_23 : decode prog_9_method_18_code 23 = .ok (.iconst 0, 1) := by decide +kernel
theorem D_Mo_patterns_24 : decode prog_9_method_18_code 24 = .ok (.istore 4, 2) := by decide +kernel
theorem D_Mo_patterns_26 : decode prog_9_method_18_code 26 = .ok (.iload 4, 2) := by decide +kernel
theorem D_Mo_patterns_28 : decode prog_9_method_18_code 28 = .ok (.sipush 8192, 3) := by decide +kernel
theorem D_Mo_patterns_31 : decode prog_9_method_18_code 31 = .ok (.if_icmp .ge 63, 3) := by decide +kernel
theorem D_Mo_patterns_34 : decode prog_9_method_18_code 34 = .ok (.iload 4, 2) := by decide +kernel
theorem D_Mo_patterns_36 : decode prog_9_method_18_code 36 = .ok (.invokestatic 154, 3) := by decide +kernel
theorem D_Mo_patterns_39 : decode prog_9_method_18_code 39 = .ok (.iload_n 1, 1) := by decide +kernel
theorem D_Mo_patterns_40 : decode prog_9_method_18_code 40 = .ok (.if_icmp .ne 48, 3) := by decide +kernel
theorem D_Mo_patterns_43 : decode prog_9_method_18_code 43 = .ok (.iload 4, 2) := by decide +kernel
theorem D_Mo_patterns_45 : decode prog_9_method_18_code 45 = .ok (.invokestatic 138, 3) := by decide +kernel
theorem D_Mo_patterns_48 : decode prog_9_method_18_code 48 = .ok (.istore 5, 2) := by decide +kernel
theorem D_Mo_patterns_50 : decode prog_9_method_18_code 50 = .ok (.iload 5, 2) := by decide +kernel
theorem D_Mo_patterns_52 : decode prog_9_method_18_code 52 = .ok (.ifCond .ge 7, 3) := by decide +kernel
theorem D_Mo_patterns_55 : decode prog_9_method_18_code 55 = .ok (.iconst 1, 1) := by decide +kernel
theorem D_Mo_patterns_56 : decode prog_9_method_18_code 56 = .ok (.goto 16, 3) := by decide +kernel
theorem D_Mo_patterns_59 : decode prog_9_method_18_code 59 = .ok (.iload 5, 2) := by decide +kernel
theorem D_Mo_patterns_61 : decode prog_9_method_18_code 61 = .ok (.invokestatic 144, 3) := by decide +kernel
theorem D_Mo_patterns_64 : decode prog_9_method_18_code 64 = .ok (.ifCond .ne 7, 3) := by decide +kernel
theorem D_Mo_patterns_67 : decode prog_9_method_18_code 67 = .ok (.iconst 0, 1) := by decide +kernel
theorem D_Mo_patterns_68 : decode prog_9_method_18_code 68 = .ok (.goto 4, 3) := by decide +kernel
theorem D_Mo_patterns_71 : decode prog_9_method_18_code 71 = .ok (.iconst 2, 1) := by decide +kernel
theorem D_Mo_patterns_72 : decode prog_9_method_18_code 72 = .ok (.istore 6, 2) := by decide +kernel
theorem D_Mo_patterns_74 : decode prog_9_method_18_code 74 = .ok (.iload_n 3, 1) := by decide +kernel
theorem D_Mo_patterns_75 : decode prog_9_method_18_code 75 = .ok (.iload 6, 2) := by decide +kernel
theorem D_Mo_patterns_77 : decode prog_9_method_18_code 77 = .ok (.iload_n 2, 1) := by decide +kernel
theorem D_Mo_patterns_78 : decode prog_9_method_18_code 78 = .ok (.if_icmp .ne 7, 3) := by decide +kernel
theorem D_Mo_patterns_81 : decode prog_9_method_18_code 81 = .ok (.iconst 1, 1) := by decide +kernel
theorem D_Mo_patterns_82 : decode prog_9_method_18_code 82 = .ok (.goto 4, 3) := by decide +kernel
theorem D_Mo_patterns_85 : decode prog_9_method_18_code 85 = .ok (.iconst 0, 1) := by decide +kernel
theorem D_Mo_patterns_86 : decode prog_9_method_18_code 86 = .ok (.iadd, 1) := by decide +kernel
theorem D_Mo_patterns_87 : decode prog_9_method_18_code 87 = .ok (.istore_n 3, 1) := by decide +kernel
theorem D_Mo_patterns_88 : decode prog_9_method_18_code 88 = .ok (.iinc 4 1, 3) := by decide +kernel
theorem D_Mo_patterns_91 : decode prog_9_method_18_code 91 = .ok (.goto (-65), 3) := by decide +kernel
theorem D_Mo_patterns_94 : decode prog_9_method_18_code 94 = .ok (.iload_n 3, 1) := by decide +kernel
theorem D_Mo_patterns_95 : decode prog_9_method_18_code 95 = .ok (.ireturn, 1) := by decide +kernel
def j_Mo_patterns_19 (σ : gM) : gO :=
  some (σ, (-1))
set_option maxHeartbeats 4000000 in
theorem wj_Mo_patterns_19 {X : gX} (C : gC gctM prog_9_method_18_code kR7 7 2 43 (some .int) X) (σ : gM) : GG gctM X 19 [] [] σ (j_Mo_patterns_19 σ) := by
  unfold j_Mo_patterns_19
  refine g_iconst C D_Mo_patterns_19 ⟨by decide, by decide⟩ ?_
  exact g_iret C D_Mo_patterns_20
def j_Mo_patterns_88 (rec : gM → Int → Int → gO) (σ : gM) (p1 p2 v3 v4 : Int) : gO :=
  ga (v4 + 1) fun a1 =>
  rec σ v3 a1
set_option maxHeartbeats 4000000 in
theorem wj_Mo_patterns_88 {X : gX} (C : gC gctM prog_9_method_18_code kR7 7 2 43 (some .int) X) {p1 p2 : Int} {rec : gM → Int → Int → gO} (hrec : ∀ (σ : gM) (a0 a1 : Int), GG gctM X 26 [(1, .inl p1), (2, .inl p2), (3, .inl a0), (4, .inl a1)] [] σ (rec σ a0 a1)) (σ : gM) (v3 v4 : Int) : GG gctM X 88 [(1, .inl p1), (2, .inl p2), (3, .inl v3), (4, .inl v4)] [] σ (j_Mo_patterns_88 rec σ p1 p2 v3 v4) := by
  unfold j_Mo_patterns_88
  refine g_iinc (t := 3) (L' := fun z => [(4, .inl z), (1, .inl p1), (2, .inl p2), (3, .inl v3)]) C D_Mo_patterns_88 rfl (by decide) (fun _ => rfl) (fun a1 => ?_)
  refine g_goto (tgt := 26) C D_Mo_patterns_91 (by decide) ?_
  refine g_sub [1, 2, 3, 0] rfl ?_
  exact hrec _ _ _
def j_Mo_patterns_86 (rec : gM → Int → Int → gO) (σ : gM) (p1 p2 v4 t0 t1 : Int) : gO :=
  ga (t1 + t0) fun a1 =>
  j_Mo_patterns_88 rec σ p1 p2 a1 v4
set_option maxHeartbeats 4000000 in
theorem wj_Mo_patterns_86 {X : gX} (C : gC gctM prog_9_method_18_code kR7 7 2 43 (some .int) X) {p1 p2 : Int} {rec : gM → Int → Int → gO} (hrec : ∀ (σ : gM) (a0 a1 : Int), GG gctM X 26 [(1, .inl p1), (2, .inl p2), (3, .inl a0), (4, .inl a1)] [] σ (rec σ a0 a1)) (σ : gM) (v4 t0 t1 : Int) : GG gctM X 86 [(1, .inl p1), (2, .inl p2), (4, .inl v4)] [.inl t0, .inl t1] σ (j_Mo_patterns_86 rec σ p1 p2 v4 t0 t1) := by
  unfold j_Mo_patterns_86
  refine g_iadd C D_Mo_patterns_86 (fun a1 => ?_)
  refine g_istore_n (L' := [(3, .inl a1), (1, .inl p1), (2, .inl p2), (4, .inl v4)]) C D_Mo_patterns_87 rfl (by decide) rfl ?_
  refine g_sub [1, 2, 0, 3] rfl ?_
  exact wj_Mo_patterns_88 C hrec _ _ _
def j_Mo_patterns_72 (rec : gM → Int → Int → gO) (σ : gM) (p1 p2 v3 v4 t0 : Int) : gO :=
  if t0 = p2 then
  (j_Mo_patterns_86 rec σ p1 p2 v4 1 v3)
  else
  (j_Mo_patterns_86 rec σ p1 p2 v4 0 v3)
set_option maxHeartbeats 4000000 in
theorem wj_Mo_patterns_72 {X : gX} (C : gC gctM prog_9_method_18_code kR7 7 2 43 (some .int) X) {p1 p2 : Int} {rec : gM → Int → Int → gO} (hrec : ∀ (σ : gM) (a0 a1 : Int), GG gctM X 26 [(1, .inl p1), (2, .inl p2), (3, .inl a0), (4, .inl a1)] [] σ (rec σ a0 a1)) (σ : gM) (v3 v4 t0 : Int) : GG gctM X 72 [(1, .inl p1), (2, .inl p2), (3, .inl v3), (4, .inl v4)] [.inl t0] σ (j_Mo_patterns_72 rec σ p1 p2 v3 v4 t0) := by
  unfold j_Mo_patterns_72
  refine g_istore (L' := [(6, .inl t0), (1, .inl p1), (2, .inl p2), (3, .inl v3), (4, .inl v4)]) C D_Mo_patterns_72 (by decide) rfl ?_
  refine g_iload_n C D_Mo_patterns_74 rfl 3 rfl ?_
  refine g_iload C D_Mo_patterns_75 0 rfl ?_
  refine g_iload_n C D_Mo_patterns_77 rfl 2 rfl ?_
  refine g_icmp_ne (tgt := 85) C D_Mo_patterns_78 (by decide) ?_ ?_
  · refine g_iconst C D_Mo_patterns_85 ⟨by decide, by decide⟩ ?_
    refine g_sub [1, 2, 4] rfl ?_
    exact wj_Mo_patterns_86 C hrec _ _ _ _
  · refine g_iconst C D_Mo_patterns_81 ⟨by decide, by decide⟩ ?_
    refine g_goto (tgt := 86) C D_Mo_patterns_82 (by decide) ?_
    refine g_sub [1, 2, 4] rfl ?_
    exact wj_Mo_patterns_86 C hrec _ _ _ _
def l_Mo_patterns_26 (p1 p2 : Int) (rec : gM → Int → Int → gO) (σ : gM) (v3 v4 : Int) : gO :=
  if v4 < 8192 then
  (gk (F_Mo_ones σ v4) fun s1 a2 =>
  if a2 = p1 then
  (gk (F_Mo_mend s1 v4) fun s3 a4 =>
  if a4 < 0 then
  (j_Mo_patterns_72 rec s3 p1 p2 v3 v4 1)
  else
  (gk (F_Mo_value s3 a4) fun s5 a6 =>
  if a6 = 0 then
  (j_Mo_patterns_72 rec s5 p1 p2 v3 v4 0)
  else
  (j_Mo_patterns_72 rec s5 p1 p2 v3 v4 2)))
  else
  (j_Mo_patterns_88 rec s1 p1 p2 v3 v4))
  else
  (some (σ, v3))
set_option maxHeartbeats 4000000 in
theorem wl_Mo_patterns_26 {X : gX} (C : gC gctM prog_9_method_18_code kR7 7 2 43 (some .int) X) {p1 p2 : Int} : ∀ (n : Nat) (σ : gM) (a0 a1 : Int), GG gctM X 26 [(1, .inl p1), (2, .inl p2), (3, .inl a0), (4, .inl a1)] [] σ (gl2 (l_Mo_patterns_26 p1 p2) n σ a0 a1) := by
  refine gl2_run (P := fun σ a0 a1 o => GG gctM X 26 [(1, .inl p1), (2, .inl p2), (3, .inl a0), (4, .inl a1)] [] σ o) (fun _ _ _ => g_none) (fun rec hrec σ v3 v4 => ?_)
  unfold l_Mo_patterns_26
  refine g_iload C D_Mo_patterns_26 3 rfl ?_
  refine g_sipush C D_Mo_patterns_28 (by decide) ⟨by decide, by decide⟩ ?_
  refine g_icmp_ge (tgt := 94) C D_Mo_patterns_31 (by decide) ?_ ?_
  · refine g_iload_n C D_Mo_patterns_94 rfl 2 rfl ?_
    exact g_iret C D_Mo_patterns_95
  · refine g_iload C D_Mo_patterns_34 3 rfl ?_
    refine g_callSi C [.inl v4] [] (Or.inl rfl) rfl (fun _ h1 h2 h3 => c_Mo_ones h1 h2 h3) wc_7_154 (by decide) (Nat.le_of_ble_eq_true rfl) D_Mo_patterns_36 (fun s1 a2 => ?_)
    refine g_iload_n C D_Mo_patterns_39 rfl 0 rfl ?_
    refine g_icmp_ne (tgt := 88) C D_Mo_patterns_40 (by decide) ?_ ?_
    · exact wj_Mo_patterns_88 C hrec _ _ _
    · refine g_iload C D_Mo_patterns_43 3 rfl ?_
      refine g_callSi C [.inl v4] [] (Or.inl rfl) rfl (fun _ h1 h2 h3 => c_Mo_mend h1 h2 h3) wc_7_138 (by decide) (Nat.le_of_ble_eq_true rfl) D_Mo_patterns_45 (fun s3 a4 => ?_)
      refine g_istore (L' := [(5, .inl a4), (1, .inl p1), (2, .inl p2), (3, .inl v3), (4, .inl v4)]) C D_Mo_patterns_48 (by decide) rfl ?_
      refine g_iload C D_Mo_patterns_50 0 rfl ?_
      refine g_if_ge (tgt := 59) C D_Mo_patterns_52 (by decide) ?_ ?_
      · refine g_iload C D_Mo_patterns_59 0 rfl ?_
        refine g_callSi C [.inl a4] [] (Or.inl rfl) rfl (fun _ h1 h2 h3 => c_Mo_value h1 h2 h3) wc_7_144 (by decide) (Nat.le_of_ble_eq_true rfl) D_Mo_patterns_61 (fun s5 a6 => ?_)
        refine g_if_ne (tgt := 71) C D_Mo_patterns_64 (by decide) ?_ ?_
        · refine g_iconst C D_Mo_patterns_71 ⟨by decide, by decide⟩ ?_
          refine g_sub [1, 2, 3, 4] rfl ?_
          exact wj_Mo_patterns_72 C hrec _ _ _ _
        · refine g_iconst C D_Mo_patterns_67 ⟨by decide, by decide⟩ ?_
          refine g_goto (tgt := 72) C D_Mo_patterns_68 (by decide) ?_
          refine g_sub [1, 2, 3, 4] rfl ?_
          exact wj_Mo_patterns_72 C hrec _ _ _ _
      · refine g_iconst C D_Mo_patterns_55 ⟨by decide, by decide⟩ ?_
        refine g_goto (tgt := 72) C D_Mo_patterns_56 (by decide) ?_
        refine g_sub [1, 2, 3, 4] rfl ?_
        exact wj_Mo_patterns_72 C hrec _ _ _ _
def F_Mo_patterns (σ : gM) (v1 v2 : Int) : gO :=
  gk (F_Mo_in σ v1 0 13) fun s1 a2 =>
  if a2 = 0 then
  (j_Mo_patterns_19 s1)
  else
  (gk (F_Mo_in s1 v2 0 2) fun s3 a4 =>
  if a4 = 0 then
  (j_Mo_patterns_19 s3)
  else
  (gl2 (l_Mo_patterns_26 v1 v2) 8200 s3 0 0))
set_option maxHeartbeats 4000000 in
theorem w_Mo_patterns {X : gX} (C : gC gctM prog_9_method_18_code kR7 7 2 43 (some .int) X) (σ : gM) (v1 v2 : Int) : GG gctM X 0 [(0, .inr (.inr 0)), (1, .inl v1), (2, .inl v2)] [] σ (F_Mo_patterns σ v1 v2) := by
  unfold F_Mo_patterns
  refine g_iload_n C D_Mo_patterns_0 rfl 1 rfl ?_
  refine g_iconst C D_Mo_patterns_1 ⟨by decide, by decide⟩ ?_
  refine g_bipush C D_Mo_patterns_2 (by decide) ⟨by decide, by decide⟩ ?_
  refine g_callSi C [.inl v1, .inl 0, .inl 13] [] (Or.inr rfl) rfl (fun _ h1 h2 h3 => c_Mo_in h1 h2 h3) wc_7_147 (by decide) (Nat.le_of_ble_eq_true rfl) D_Mo_patterns_4 (fun s1 a2 => ?_)
  refine g_if_eq (tgt := 19) C D_Mo_patterns_7 (by decide) ?_ ?_
  · refine g_sub [] rfl ?_
    exact wj_Mo_patterns_19 C _
  · refine g_iload_n C D_Mo_patterns_10 rfl 2 rfl ?_
    refine g_iconst C D_Mo_patterns_11 ⟨by decide, by decide⟩ ?_
    refine g_iconst C D_Mo_patterns_12 ⟨by decide, by decide⟩ ?_
    refine g_callSi C [.inl v2, .inl 0, .inl 2] [] (Or.inr rfl) rfl (fun _ h1 h2 h3 => c_Mo_in h1 h2 h3) wc_7_147 (by decide) (Nat.le_of_ble_eq_true rfl) D_Mo_patterns_13 (fun s3 a4 => ?_)
    refine g_if_ne (tgt := 21) C D_Mo_patterns_16 (by decide) ?_ ?_
    · refine g_iconst C D_Mo_patterns_21 ⟨by decide, by decide⟩ ?_
      refine g_istore_n (L' := [(3, .inl 0), (0, .inr (.inr 0)), (1, .inl v1), (2, .inl v2)]) C D_Mo_patterns_22 rfl (by decide) rfl ?_
      refine g_iconst C D_Mo_patterns_23 ⟨by decide, by decide⟩ ?_
      refine g_istore (L' := [(4, .inl 0), (3, .inl 0), (0, .inr (.inr 0)), (1, .inl v1), (2, .inl v2)]) C D_Mo_patterns_24 (by decide) rfl ?_
      refine g_sub [3, 4, 1, 0] rfl ?_
      exact wl_Mo_patterns_26 C 8200 _ _ _
    · refine g_sub [] rfl ?_
      exact wj_Mo_patterns_19 C _
theorem c_Mo_patterns {σ : gM} {v1 v2 : Int} {r : gR} (ho : F_Mo_patterns σ v1 v2 = some r) (hok : gOk [.inr (.inr 0), .inl v1, .inl v2]) (hin : gIn gctM σ) : gCt gctM Y_Mo_patterns prog_9_method_18_code 7 (some .int) 2 43 [.inr (.inr 0), .inl v1, .inl v2] σ r := g_entry (by decide) rfl (Nat.le_of_ble_eq_true rfl) ho hok hin (fun X C => w_Mo_patterns C σ v1 v2)
theorem D_Mo_wearOut_0 : decode prog_9_method_19_code 0 = .ok (.iload_n 2, 1) := by decide +kernel
theorem D_Mo_wearOut_1 : decode prog_9_method_19_code 1 = .ok (.iconst 0, 1) := by decide +kernel
theorem D_Mo_wearOut_2 : decode prog_9_method_19_code 2 = .ok (.bipush 15, 2) := by decide +kernel
theorem D_Mo_wearOut_4 : decode prog_9_method_19_code 4 = .ok (.invokestatic 147, 3) := by decide +kernel
theorem D_Mo_wearOut_7 : decode prog_9_method_19_code 7 = .ok (.ifCond .ne 4, 3) := by decide +kernel
theorem D_Mo_wearOut_10 : decode prog_9_method_19_code 10 = .ok (.return_, 1) := by decide +kernel
theorem D_Mo_wearOut_11 : decode prog_9_method_19_code 11 = .ok (.iconst 4, 1) := by decide +kernel
theorem D_Mo_wearOut_12 : decode prog_9_method_19_code 12 = .ok (.iload_n 2, 1) := by decide +kernel
theorem D_Mo_wearOut_13 : decode prog_9_method_19_code 13 = .ok (.imul, 1) := by decide +kernel
theorem D_Mo_wearOut_14 : decode prog_9_method_19_code 14 = .ok (.iload_n 1, 1) := by decide +kernel
theorem D_Mo_wearOut_15 : decode prog_9_method_19_code 15 = .ok (.iadd, 1) := by decide +kernel
theorem D_Mo_wearOut_16 : decode prog_9_method_19_code 16 = .ok (.istore_n 3, 1) := by decide +kernel
theorem D_Mo_wearOut_17 : decode prog_9_method_19_code 17 = .ok (.aload_n 0, 1) := by decide +kernel
theorem D_Mo_wearOut_18 : decode prog_9_method_19_code 18 = .ok (.getfield 13, 3) := by decide +kernel
theorem D_Mo_wearOut_21 : decode prog_9_method_19_code 21 = .ok (.iload_n 3, 1) := by decide +kernel
theorem D_Mo_wearOut_22 : decode prog_9_method_19_code 22 = .ok (.dup2, 1) := by decide +kernel
theorem D_Mo_wearOut_23 : decode prog_9_method_19_code 23 = .ok (.iaload, 1) := by decide +kernel
theorem D_Mo_wearOut_24 : decode prog_9_method_19_code 24 = .ok (.iconst 1, 1) := by decide +kernel
theorem D_Mo_wearOut_25 : decode prog_9_method_19_code 25 = .ok (.iadd, 1) := by decide +kernel
theorem D_Mo_wearOut_26 : decode prog_9_method_19_code 26 = .ok (.iastore, 1) := by decide +kernel
theorem D_Mo_wearOut_27 : decode prog_9_method_19_code 27 = .ok (.aload_n 0, 1) := by decide +kernel
theorem D_Mo_wearOut_28 : decode prog_9_method_19_code 28 = .ok (.getfield 151, 3) := by decide +kernel
theorem D_Mo_wearOut_31 : decode prog_9_method_19_code 31 = .ok (.ifCond .le 42, 3) := by decide +kernel
theorem D_Mo_wearOut_34 : decode prog_9_method_19_code 34 = .ok (.aload_n 0, 1) := by decide +kernel
theorem D_Mo_wearOut_35 : decode prog_9_method_19_code 35 = .ok (.getfield 13, 3) := by decide +kernel
theorem D_Mo_wearOut_38 : decode prog_9_method_19_code 38 = .ok (.iload_n 3, 1) := by decide +kernel
theorem D_Mo_wearOut_39 : decode prog_9_method_19_code 39 = .ok (.iaload, 1) := by decide +kernel
theorem D_Mo_wearOut_40 : decode prog_9_method_19_code 40 = .ok (.aload_n 0, 1) := by decide +kernel
theorem D_Mo_wearOut_41 : decode prog_9_method_19_code 41 = .ok (.getfield 151, 3) := by decide +kernel
theorem D_Mo_wearOut_44 : decode prog_9_method_19_code 44 = .ok (.if_icmp .lt 29, 3) := by decide +kernel
theorem D_Mo_wearOut_47 : decode prog_9_method_19_code 47 = .ok (.aload_n 0, 1) := by decide +kernel
theorem D_Mo_wearOut_48 : decode prog_9_method_19_code 48 = .ok (.getfield 7, 3) := by decide +kernel
theorem D_Mo_wearOut_51 : decode prog_9_method_19_code 51 = .ok (.bipush 32, 2) := by decide +kernel
theorem D_Mo_wearOut_53 : decode prog_9_method_19_code 53 = .ok (.iload_n 2, 1) := by decide +kernel
theorem D_Mo_wearOut_54 : decode prog_9_method_19_code 54 = .ok (.imul, 1) := by decide +kernel
theorem D_Mo_wearOut_55 : decode prog_9_method_19_code 55 = .ok (.bipush 8, 2) := by decide +kernel
theorem D_Mo_wearOut_57 : decode prog_9_method_19_code 57 = .ok (.iload_n 1, 1) := by decide +kernel
theorem D_Mo_wearOut_58 : decode prog_9_method_19_code 58 = .ok (.imul, 1) := by decide +kernel
theorem D_Mo_wearOut_59 : decode prog_9_method_19_code 59 = .ok (.iadd, 1) := by decide +kernel
theorem D_Mo_wearOut_60 : decode prog_9_method_19_code 60 = .ok (.dup2, 1) := by decide +kernel
theorem D_Mo_wearOut_61 : decode prog_9_method_19_code 61 = .ok (.iaload, 1) := by decide +kernel
theorem D_Mo_wearOut_62 : decode prog_9_method_19_code 62 = .ok (.bipush 8, 2) := by decide +kernel
theorem D_Mo_wearOut_64 : decode prog_9_method_19_code 64 = .ok (.ixor, 1) := by decide +kernel
theorem D_Mo_wearOut_65 : decode prog_9_method_19_code 65 = .ok (.iastore, 1) := by decide +kernel
theorem D_Mo_wearOut_66 : decode prog_9_method_19_code 66 = .ok (.aload_n 0, 1) := by decide +kernel
theorem D_Mo_wearOut_67 : decode prog_9_method_19_code 67 = .ok (.getfield 13, 3) := by decide +kernel
theorem D_Mo_wearOut_70 : decode prog_9_method_19_code 70 = .ok (.iload_n 3, 1) := by decide +kernel
theorem D_Mo_wearOut_71 : decode prog_9_method_19_code 71 = .ok (.iconst 0, 1) := by decide +kernel
theorem D_Mo_wearOut_72 : decode prog_9_method_19_code 72 = .ok (.iastore, 1) := by decide +kernel
theorem D_Mo_wearOut_73 : decode prog_9_method_19_code 73 = .ok (.return_, 1) := by decide +kernel
def j_Mo_wearOut_73 (σ : gM) : gO :=
  some (σ, 0)
set_option maxHeartbeats 4000000 in
theorem wj_Mo_wearOut_73 {X : gX} (C : gC gctM prog_9_method_19_code kR7 4 1 22 (none) X) (σ : gM) : GG gctM X 73 [] [] σ (j_Mo_wearOut_73 σ) := by
  unfold j_Mo_wearOut_73
  exact g_vret C D_Mo_wearOut_73
def F_Mo_wearOut (σ : gM) (v1 v2 : Int) : gO :=
  gk (F_Mo_in σ v2 0 15) fun s1 a2 =>
  if a2 = 0 then
  (some (s1, 0))
  else
  (ga (4 * v2) fun a3 =>
  ga (a3 + v1) fun a4 =>
  gi a4 64 <|
  ga ((s1 2 a4) + 1) fun a5 =>
  gw s1 2 64 a4 a5 fun s6 =>
  if 0 < (s6 0 1) then
  (gi a4 64 <|
  if (s6 2 a4) < (s6 0 1) then
  (j_Mo_wearOut_73 s6)
  else
  (ga (32 * v2) fun a7 =>
  ga (8 * v1) fun a8 =>
  ga (a7 + a8) fun a9 =>
  gi a9 512 <|
  gw s6 1 512 a9 (gXor (s6 1 a9) 8) fun s10 =>
  gw s10 2 64 a4 0 fun s11 =>
  j_Mo_wearOut_73 s11))
  else
  (j_Mo_wearOut_73 s6))
set_option maxHeartbeats 4000000 in
theorem w_Mo_wearOut {X : gX} (C : gC gctM prog_9_method_19_code kR7 4 1 22 (none) X) (σ : gM) (v1 v2 : Int) : GG gctM X 0 [(0, .inr (.inr 0)), (1, .inl v1), (2, .inl v2)] [] σ (F_Mo_wearOut σ v1 v2) := by
  unfold F_Mo_wearOut
  refine g_iload_n C D_Mo_wearOut_0 rfl 2 rfl ?_
  refine g_iconst C D_Mo_wearOut_1 ⟨by decide, by decide⟩ ?_
  refine g_bipush C D_Mo_wearOut_2 (by decide) ⟨by decide, by decide⟩ ?_
  refine g_callSi C [.inl v2, .inl 0, .inl 15] [] (Or.inr rfl) rfl (fun _ h1 h2 h3 => c_Mo_in h1 h2 h3) wc_7_147 (by decide) (Nat.le_of_ble_eq_true rfl) D_Mo_wearOut_4 (fun s1 a2 => ?_)
  refine g_if_ne (tgt := 11) C D_Mo_wearOut_7 (by decide) ?_ ?_
  · refine g_iconst C D_Mo_wearOut_11 ⟨by decide, by decide⟩ ?_
    refine g_iload_n C D_Mo_wearOut_12 rfl 2 rfl ?_
    refine g_imul C D_Mo_wearOut_13 (fun a3 => ?_)
    refine g_iload_n C D_Mo_wearOut_14 rfl 1 rfl ?_
    refine g_iadd C D_Mo_wearOut_15 (fun a4 => ?_)
    refine g_istore_n (L' := [(3, .inl a4), (0, .inr (.inr 0)), (1, .inl v1), (2, .inl v2)]) C D_Mo_wearOut_16 rfl (by decide) rfl ?_
    refine g_aload_n C D_Mo_wearOut_17 rfl 1 rfl ?_
    refine g_getr (ci := 7) C 2 rfl kI7 rfl (by decide) rfl rfl wf_7_13 D_Mo_wearOut_18 ?_
    refine g_iload_n C D_Mo_wearOut_21 rfl 0 rfl ?_
    refine g_dup2 C D_Mo_wearOut_22 rfl rfl ?_
    refine g_iald C rfl rfl rfl D_Mo_wearOut_23 ?_
    refine g_iconst C D_Mo_wearOut_24 ⟨by decide, by decide⟩ ?_
    refine g_iadd C D_Mo_wearOut_25 (fun a5 => ?_)
    refine g_iast C rfl rfl D_Mo_wearOut_26 (fun s6 => ?_)
    refine g_aload_n C D_Mo_wearOut_27 rfl 1 rfl ?_
    refine g_get (ci := 7) C 1 (jz := 1) rfl rfl kI7 rfl (by decide) rfl rfl wf_7_151 rfl D_Mo_wearOut_28 ?_
    refine g_if_le (tgt := 73) C D_Mo_wearOut_31 (by decide) ?_ ?_
    · refine g_sub [] rfl ?_
      exact wj_Mo_wearOut_73 C _
    · refine g_aload_n C D_Mo_wearOut_34 rfl 1 rfl ?_
      refine g_getr (ci := 7) C 2 rfl kI7 rfl (by decide) rfl rfl wf_7_13 D_Mo_wearOut_35 ?_
      refine g_iload_n C D_Mo_wearOut_38 rfl 0 rfl ?_
      refine g_iald C rfl rfl rfl D_Mo_wearOut_39 ?_
      refine g_aload_n C D_Mo_wearOut_40 rfl 1 rfl ?_
      refine g_get (ci := 7) C 1 (jz := 1) rfl rfl kI7 rfl (by decide) rfl rfl wf_7_151 rfl D_Mo_wearOut_41 ?_
      refine g_icmp_lt (tgt := 73) C D_Mo_wearOut_44 (by decide) ?_ ?_
      · refine g_sub [] rfl ?_
        exact wj_Mo_wearOut_73 C _
      · refine g_aload_n C D_Mo_wearOut_47 rfl 1 rfl ?_
        refine g_getr (ci := 7) C 0 rfl kI7 rfl (by decide) rfl rfl wf_7_7 D_Mo_wearOut_48 ?_
        refine g_bipush C D_Mo_wearOut_51 (by decide) ⟨by decide, by decide⟩ ?_
        refine g_iload_n C D_Mo_wearOut_53 rfl 3 rfl ?_
        refine g_imul C D_Mo_wearOut_54 (fun a7 => ?_)
        refine g_bipush C D_Mo_wearOut_55 (by decide) ⟨by decide, by decide⟩ ?_
        refine g_iload_n C D_Mo_wearOut_57 rfl 2 rfl ?_
        refine g_imul C D_Mo_wearOut_58 (fun a8 => ?_)
        refine g_iadd C D_Mo_wearOut_59 (fun a9 => ?_)
        refine g_dup2 C D_Mo_wearOut_60 rfl rfl ?_
        refine g_iald C rfl rfl rfl D_Mo_wearOut_61 ?_
        refine g_bipush C D_Mo_wearOut_62 (by decide) ⟨by decide, by decide⟩ ?_
        refine g_ixor C D_Mo_wearOut_64 ?_
        refine g_iast C rfl rfl D_Mo_wearOut_65 (fun s10 => ?_)
        refine g_aload_n C D_Mo_wearOut_66 rfl 1 rfl ?_
        refine g_getr (ci := 7) C 2 rfl kI7 rfl (by decide) rfl rfl wf_7_13 D_Mo_wearOut_67 ?_
        refine g_iload_n C D_Mo_wearOut_70 rfl 0 rfl ?_
        refine g_iconst C D_Mo_wearOut_71 ⟨by decide, by decide⟩ ?_
        refine g_iast C rfl rfl D_Mo_wearOut_72 (fun s11 => ?_)
        refine g_sub [] rfl ?_
        exact wj_Mo_wearOut_73 C _
  · exact g_vret C D_Mo_wearOut_10
theorem c_Mo_wearOut {σ : gM} {v1 v2 : Int} {r : gR} (ho : F_Mo_wearOut σ v1 v2 = some r) (hok : gOk [.inr (.inr 0), .inl v1, .inl v2]) (hin : gIn gctM σ) : gCt gctM Y_Mo_wearOut prog_9_method_19_code 4 (none) 1 22 [.inr (.inr 0), .inl v1, .inl v2] σ r := g_entry (by decide) rfl (Nat.le_of_ble_eq_true rfl) ho hok hin (fun X C => w_Mo_wearOut C σ v1 v2)
theorem D_Mo_openFor_0 : decode prog_9_method_20_code 0 = .ok (.iload_n 1, 1) := by decide +kernel
theorem D_Mo_openFor_1 : decode prog_9_method_20_code 1 = .ok (.iconst 4, 1) := by decide +kernel
theorem D_Mo_openFor_2 : decode prog_9_method_20_code 2 = .ok (.irem, 1) := by decide +kernel
theorem D_Mo_openFor_3 : decode prog_9_method_20_code 3 = .ok (.istore_n 2, 1) := by decide +kernel
theorem D_Mo_openFor_4 : decode prog_9_method_20_code 4 = .ok (.iload_n 1, 1) := by decide +kernel
theorem D_Mo_openFor_5 : decode prog_9_method_20_code 5 = .ok (.iconst 4, 1) := by decide +kernel
theorem D_Mo_openFor_6 : decode prog_9_method_20_code 6 = .ok (.idiv, 1) := by decide +kernel
theorem D_Mo_openFor_7 : decode prog_9_method_20_code 7 = .ok (.istore_n 3, 1) := by decide +kernel
theorem D_Mo_openFor_8 : decode prog_9_method_20_code 8 = .ok (.aload_n 0, 1) := by decide +kernel
theorem D_Mo_openFor_9 : decode prog_9_method_20_code 9 = .ok (.getfield 16, 3) := by decide +kernel
theorem D_Mo_openFor_12 : decode prog_9_method_20_code 12 = .ok (.iload_n 2, 1) := by decide +kernel
theorem D_Mo_openFor_13 : decode prog_9_method_20_code 13 = .ok (.iaload, 1) := by decide +kernel
theorem D_Mo_openFor_14 : decode prog_9_method_20_code 14 = .ok (.iload_n 3, 1) := by decide +kernel
theorem D_Mo_openFor_15 : decode prog_9_method_20_code 15 = .ok (.if_icmp .ne 4, 3) := by decide +kernel
theorem D_Mo_openFor_18 : decode prog_9_method_20_code 18 = .ok (.return_, 1) := by decide +kernel
theorem D_Mo_openFor_19 : decode prog_9_method_20_code 19 = .ok (.aload_n 0, 1) := by decide +kernel
theorem D_Mo_openFor_20 : decode prog_9_method_20_code 20 = .ok (.iconst 1, 1) := by decide +kernel
theorem D_Mo_openFor_21 : decode prog_9_method_20_code 21 = .ok (.aload_n 0, 1) := by decide +kernel
theorem D_Mo_openFor_22 : decode prog_9_method_20_code 22 = .ok (.getfield 16, 3) := by decide +kernel
theorem D_Mo_openFor_25 : decode prog_9_method_20_code 25 = .ok (.iload_n 2, 1) := by decide +kernel
theorem D_Mo_openFor_26 : decode prog_9_method_20_code 26 = .ok (.iaload, 1) := by decide +kernel
theorem D_Mo_openFor_27 : decode prog_9_method_20_code 27 = .ok (.bipush (-4), 2) := by decide +kernel
theorem D_Mo_openFor_29 : decode prog_9_method_20_code 29 = .ok (.if_icmp .ne 7, 3) := by decide +kernel
theorem D_Mo_openFor_32 : decode prog_9_method_20_code 32 = .ok (.iconst 3, 1) := by decide +kernel
theorem D_Mo_openFor_33 : decode prog_9_method_20_code 33 = .ok (.goto 4, 3) := by decide +kernel
theorem D_Mo_openFor_36 : decode prog_9_method_20_code 36 = .ok (.iconst 5, 1) := by decide +kernel
theorem D_Mo_openFor_37 : decode prog_9_method_20_code 37 = .ok (.invokevirtual 157, 3) := by decide +kernel
theorem D_Mo_openFor_40 : decode prog_9_method_20_code 40 = .ok (.aload_n 0, 1) := by decide +kernel
theorem D_Mo_openFor_41 : decode prog_9_method_20_code 41 = .ok (.getfield 16, 3) := by decide +kernel
theorem D_Mo_openFor_44 : decode prog_9_method_20_code 44 = .ok (.iload_n 2, 1) := by decide +kernel
theorem D_Mo_openFor_45 : decode prog_9_method_20_code 45 = .ok (.iload_n 3, 1) := by decide +kernel
theorem D_Mo_openFor_46 : decode prog_9_method_20_code 46 = .ok (.iastore, 1) := by decide +kernel
theorem D_Mo_openFor_47 : decode prog_9_method_20_code 47 = .ok (.aload_n 0, 1) := by decide +kernel
theorem D_Mo_openFor_48 : decode prog_9_method_20_code 48 = .ok (.getfield 13, 3) := by decide +kernel
theorem D_Mo_openFor_51 : decode prog_9_method_20_code 51 = .ok (.iconst 4, 1) := by decide +kernel
theorem D_Mo_openFor_52 : decode prog_9_method_20_code 52 = .ok (.iload_n 3, 1) := by decide +kernel
theorem D_Mo_openFor_53 : decode prog_9_method_20_code 53 = .ok (.imul, 1) := by decide +kernel
theorem D_Mo_openFor_54 : decode prog_9_method_20_code 54 = .ok (.iload_n 2, 1) := by decide +kernel
theorem D_Mo_openFor_55 : decode prog_9_method_20_code 55 = .ok (.iadd, 1) := by decide +kernel
theorem D_Mo_openFor_56 : decode prog_9_method_20_code 56 = .ok (.iconst 0, 1) := by decide +kernel
theorem D_Mo_openFor_57 : decode prog_9_method_20_code 57 = .ok (.iastore, 1) := by decide +kernel
theorem D_Mo_openFor_58 : decode prog_9_method_20_code 58 = .ok (.aload_n 0, 1) := by decide +kernel
theorem D_Mo_openFor_59 : decode prog_9_method_20_code 59 = .ok (.iload_n 2, 1) := by decide +kernel
theorem D_Mo_openFor_60 : decode prog_9_method_20_code 60 = .ok (.iload_n 3, 1) := by decide +kernel
theorem D_Mo_openFor_61 : decode prog_9_method_20_code 61 = .ok (.iconst 1, 1) := by decide +kernel
theorem D_Mo_openFor_62 : decode prog_9_method_20_code 62 = .ok (.isub, 1) := by decide +kernel
theorem D_Mo_openFor_63 : decode prog_9_method_20_code 63 = .ok (.invokevirtual 161, 3) := by decide +kernel
theorem D_Mo_openFor_66 : decode prog_9_method_20_code 66 = .ok (.aload_n 0, 1) := by decide +kernel
theorem D_Mo_openFor_67 : decode prog_9_method_20_code 67 = .ok (.iload_n 2, 1) := by decide +kernel
theorem D_Mo_openFor_68 : decode prog_9_method_20_code 68 = .ok (.iload_n 3, 1) := by decide +kernel
theorem D_Mo_openFor_69 : decode prog_9_method_20_code 69 = .ok (.iconst 1, 1) := by decide +kernel
theorem D_Mo_openFor_70 : decode prog_9_method_20_code 70 = .ok (.iadd, 1) := by decide +kernel
theorem D_Mo_openFor_71 : decode prog_9_method_20_code 71 = .ok (.invokevirtual 161, 3) := by decide +kernel
theorem D_Mo_openFor_74 : decode prog_9_method_20_code 74 = .ok (.return_, 1) := by decide +kernel
def j_Mo_openFor_37_0 (σ : gM) (v2 v3 t0 t1 : Int) : gO :=
  gk (F_Mo_tick σ t1 t0) fun s1 _ =>
  gw s1 3 4 v2 v3 fun s2 =>
  ga (4 * v3) fun a3 =>
  ga (a3 + v2) fun a4 =>
  gw s2 2 64 a4 0 fun s5 =>
  ga (v3 - 1) fun a6 =>
  gk (F_Mo_wearOut s5 v2 a6) fun s7 _ =>
  ga (v3 + 1) fun a8 =>
  gk (F_Mo_wearOut s7 v2 a8) fun s9 _ =>
  some (s9, 0)
set_option maxHeartbeats 4000000 in
theorem wj_Mo_openFor_37_0 {X : gX} (C : gC gctM prog_9_method_20_code kR7 4 2 45 (none) X) (σ : gM) (v2 v3 t0 t1 : Int) : GG gctM X 37 [(0, .inr (.inr 0)), (2, .inl v2), (3, .inl v3)] [.inl t0, .inl t1, .inr (.inr 0)] σ (j_Mo_openFor_37_0 σ v2 v3 t0 t1) := by
  unfold j_Mo_openFor_37_0
  refine g_callVv (ci := 7) C [.inl t1, .inl t0] [] rfl rfl (fun _ h1 h2 h3 => c_Mo_tick h1 h2 h3) rfl rfl wc_7_157 (by decide) (Nat.le_of_ble_eq_true rfl) D_Mo_openFor_37 (fun s1 _ => ?_)
  refine g_aload_n C D_Mo_openFor_40 rfl 0 rfl ?_
  refine g_getr (ci := 7) C 3 rfl kI7 rfl (by decide) rfl rfl wf_7_16 D_Mo_openFor_41 ?_
  refine g_iload_n C D_Mo_openFor_44 rfl 1 rfl ?_
  refine g_iload_n C D_Mo_openFor_45 rfl 2 rfl ?_
  refine g_iast C rfl rfl D_Mo_openFor_46 (fun s2 => ?_)
  refine g_aload_n C D_Mo_openFor_47 rfl 0 rfl ?_
  refine g_getr (ci := 7) C 2 rfl kI7 rfl (by decide) rfl rfl wf_7_13 D_Mo_openFor_48 ?_
  refine g_iconst C D_Mo_openFor_51 ⟨by decide, by decide⟩ ?_
  refine g_iload_n C D_Mo_openFor_52 rfl 2 rfl ?_
  refine g_imul C D_Mo_openFor_53 (fun a3 => ?_)
  refine g_iload_n C D_Mo_openFor_54 rfl 1 rfl ?_
  refine g_iadd C D_Mo_openFor_55 (fun a4 => ?_)
  refine g_iconst C D_Mo_openFor_56 ⟨by decide, by decide⟩ ?_
  refine g_iast C rfl rfl D_Mo_openFor_57 (fun s5 => ?_)
  refine g_aload_n C D_Mo_openFor_58 rfl 0 rfl ?_
  refine g_iload_n C D_Mo_openFor_59 rfl 1 rfl ?_
  refine g_iload_n C D_Mo_openFor_60 rfl 2 rfl ?_
  refine g_iconst C D_Mo_openFor_61 ⟨by decide, by decide⟩ ?_
  refine g_isub C D_Mo_openFor_62 (fun a6 => ?_)
  refine g_callVv (ci := 7) C [.inl v2, .inl a6] [] rfl rfl (fun _ h1 h2 h3 => c_Mo_wearOut h1 h2 h3) rfl rfl wc_7_161 (by decide) (Nat.le_of_ble_eq_true rfl) D_Mo_openFor_63 (fun s7 _ => ?_)
  refine g_aload_n C D_Mo_openFor_66 rfl 0 rfl ?_
  refine g_iload_n C D_Mo_openFor_67 rfl 1 rfl ?_
  refine g_iload_n C D_Mo_openFor_68 rfl 2 rfl ?_
  refine g_iconst C D_Mo_openFor_69 ⟨by decide, by decide⟩ ?_
  refine g_iadd C D_Mo_openFor_70 (fun a8 => ?_)
  refine g_callVv (ci := 7) C [.inl v2, .inl a8] [] rfl rfl (fun _ h1 h2 h3 => c_Mo_wearOut h1 h2 h3) rfl rfl wc_7_161 (by decide) (Nat.le_of_ble_eq_true rfl) D_Mo_openFor_71 (fun s9 _ => ?_)
  exact g_vret C D_Mo_openFor_74
def F_Mo_openFor (σ : gM) (v1 : Int) : gO :=
  gd v1 4 <|
  gv (v1 % 4) fun a1 =>
  gd v1 4 <|
  gv (v1 / 4) fun a2 =>
  gi a1 4 <|
  if (σ 3 a1) = a2 then
  (some (σ, 0))
  else
  (gi a1 4 <|
  if (σ 3 a1) = (-4) then
  (j_Mo_openFor_37_0 σ a1 a2 3 1)
  else
  (j_Mo_openFor_37_0 σ a1 a2 5 1))
set_option maxHeartbeats 4000000 in
theorem w_Mo_openFor {X : gX} (C : gC gctM prog_9_method_20_code kR7 4 2 45 (none) X) (σ : gM) (v1 : Int) : GG gctM X 0 [(0, .inr (.inr 0)), (1, .inl v1)] [] σ (F_Mo_openFor σ v1) := by
  unfold F_Mo_openFor
  refine g_iload_n C D_Mo_openFor_0 rfl 1 rfl ?_
  refine g_iconst C D_Mo_openFor_1 ⟨by decide, by decide⟩ ?_
  refine g_irem C D_Mo_openFor_2 ?_
  refine g_let C (fun a1 => ?_)
  refine g_istore_n (L' := [(2, .inl a1), (0, .inr (.inr 0)), (1, .inl v1)]) C D_Mo_openFor_3 rfl (by decide) rfl ?_
  refine g_iload_n C D_Mo_openFor_4 rfl 2 rfl ?_
  refine g_iconst C D_Mo_openFor_5 ⟨by decide, by decide⟩ ?_
  refine g_idiv C D_Mo_openFor_6 ?_
  refine g_let C (fun a2 => ?_)
  refine g_istore_n (L' := [(3, .inl a2), (2, .inl a1), (0, .inr (.inr 0)), (1, .inl v1)]) C D_Mo_openFor_7 rfl (by decide) rfl ?_
  refine g_aload_n C D_Mo_openFor_8 rfl 2 rfl ?_
  refine g_getr (ci := 7) C 3 rfl kI7 rfl (by decide) rfl rfl wf_7_16 D_Mo_openFor_9 ?_
  refine g_iload_n C D_Mo_openFor_12 rfl 1 rfl ?_
  refine g_iald C rfl rfl rfl D_Mo_openFor_13 ?_
  refine g_iload_n C D_Mo_openFor_14 rfl 0 rfl ?_
  refine g_icmp_ne (tgt := 19) C D_Mo_openFor_15 (by decide) ?_ ?_
  · refine g_aload_n C D_Mo_openFor_19 rfl 2 rfl ?_
    refine g_iconst C D_Mo_openFor_20 ⟨by decide, by decide⟩ ?_
    refine g_aload_n C D_Mo_openFor_21 rfl 2 rfl ?_
    refine g_getr (ci := 7) C 3 rfl kI7 rfl (by decide) rfl rfl wf_7_16 D_Mo_openFor_22 ?_
    refine g_iload_n C D_Mo_openFor_25 rfl 1 rfl ?_
    refine g_iald C rfl rfl rfl D_Mo_openFor_26 ?_
    refine g_bipush C D_Mo_openFor_27 (by decide) ⟨by decide, by decide⟩ ?_
    refine g_icmp_ne (tgt := 36) C D_Mo_openFor_29 (by decide) ?_ ?_
    · refine g_iconst C D_Mo_openFor_36 ⟨by decide, by decide⟩ ?_
      refine g_sub [2, 1, 0] rfl ?_
      exact wj_Mo_openFor_37_0 C _ _ _ _ _
    · refine g_iconst C D_Mo_openFor_32 ⟨by decide, by decide⟩ ?_
      refine g_goto (tgt := 37) C D_Mo_openFor_33 (by decide) ?_
      refine g_sub [2, 1, 0] rfl ?_
      exact wj_Mo_openFor_37_0 C _ _ _ _ _
  · exact g_vret C D_Mo_openFor_18
theorem c_Mo_openFor {σ : gM} {v1 : Int} {r : gR} (ho : F_Mo_openFor σ v1 = some r) (hok : gOk [.inr (.inr 0), .inl v1]) (hin : gIn gctM σ) : gCt gctM Y_Mo_openFor prog_9_method_20_code 4 (none) 2 45 [.inr (.inr 0), .inl v1] σ r := g_entry (by decide) rfl (Nat.le_of_ble_eq_true rfl) ho hok hin (fun X C => w_Mo_openFor C σ v1)
theorem D_Mo_find_0 : decode prog_9_method_21_code 0 = .ok (.iconst 0, 1) := by decide +kernel
theorem D_Mo_find_1 : decode prog_9_method_21_code 1 = .ok (.istore_n 3, 1) := by decide +kernel
theorem D_Mo_find_2 : decode prog_9_method_21_code 2 = .ok (.iload_n 3, 1) := by decide +kernel
theorem D_Mo_find_3 : decode prog_9_method_21_code 3 = .ok (.aload_n 0, 1) := by decide +kernel
theorem D_Mo_find_4 : decode prog_9_method_21_code 4 = .ok (.getfield 23, 3) := by decide +kernel
theorem D_Mo_find_7 : decode prog_9_method_21_code 7 = .ok (.if_icmp .ge 43, 3) := by decide +kernel
theorem D_Mo_find_10 : decode prog_9_method_21_code 10 = .ok (.bipush 16, 2) := by decide +kernel
theorem D_Mo_find_12 : decode prog_9_method_21_code 12 = .ok (.iload_n 1, 1) := by decide +kernel
theorem D_Mo_find_13 : decode prog_9_method_21_code 13 = .ok (.imul, 1) := by decide +kernel
theorem D_Mo_find_14 : decode prog_9_method_21_code 14 = .ok (.aload_n 0, 1) := by decide +kernel
theorem D_Mo_find_15 : decode prog_9_method_21_code 15 = .ok (.getfield 23, 3) := by decide +kernel
theorem D_Mo_find_18 : decode prog_9_method_21_code 18 = .ok (.iload_n 2, 1) := by decide +kernel
theorem D_Mo_find_19 : decode prog_9_method_21_code 19 = .ok (.aload_n 0, 1) := by decide +kernel
theorem D_Mo_find_20 : decode prog_9_method_21_code 20 = .ok (.getfield 19, 3) := by decide +kernel
theorem D_Mo_find_23 : decode prog_9_method_21_code 23 = .ok (.irem, 1) := by decide +kernel
theorem D_Mo_find_24 : decode prog_9_method_21_code 24 = .ok (.imul, 1) := by decide +kernel
theorem D_Mo_find_25 : decode prog_9_method_21_code 25 = .ok (.iadd, 1) := by decide +kernel
theorem D_Mo_find_26 : decode prog_9_method_21_code 26 = .ok (.iload_n 3, 1) := by decide +kernel
theorem D_Mo_find_27 : decode prog_9_method_21_code 27 = .ok (.iadd, 1) := by decide +kernel
theorem D_Mo_find_28 : decode prog_9_method_21_code 28 = .ok (.istore 4, 2) := by decide +kernel
theorem D_Mo_find_30 : decode prog_9_method_21_code 30 = .ok (.aload_n 0, 1) := by decide +kernel
theorem D_Mo_find_31 : decode prog_9_method_21_code 31 = .ok (.getfield 29, 3) := by decide +kernel
theorem D_Mo_find_34 : decode prog_9_method_21_code 34 = .ok (.iload 4, 2) := by decide +kernel
theorem D_Mo_find_36 : decode prog_9_method_21_code 36 = .ok (.iaload, 1) := by decide +kernel
theorem D_Mo_find_37 : decode prog_9_method_21_code 37 = .ok (.iload_n 2, 1) := by decide +kernel
theorem D_Mo_find_38 : decode prog_9_method_21_code 38 = .ok (.if_icmp .ne 6, 3) := by decide +kernel
theorem D_Mo_find_41 : decode prog_9_method_21_code 41 = .ok (.iload 4, 2) := by decide +kernel
theorem D_Mo_find_43 : decode prog_9_method_21_code 43 = .ok (.ireturn, 1) := by decide +kernel
theorem D_Mo_find_44 : decode prog_9_method_21_code 44 = .ok (.iinc 3 1, 3) := by decide +kernel
theorem D_Mo_find_47 : decode prog_9_method_21_code 47 = .ok (.goto (-45), 3) := by decide +kernel
theorem D_Mo_find_50 : decode prog_9_method_21_code 50 = .ok (.bipush (-4), 2) := by decide +kernel
theorem D_Mo_find_52 : decode prog_9_method_21_code 52 = .ok (.ireturn, 1) := by decide +kernel
def l_Mo_find_2 (p1 p2 : Int) (rec : gM → Int → gO) (σ : gM) (v3 : Int) : gO :=
  if v3 < (σ 0 6) then
  (ga (16 * p1) fun a1 =>
  gd p2 (σ 0 5) <|
  ga ((σ 0 6) * (p2 % (σ 0 5))) fun a2 =>
  ga (a1 + a2) fun a3 =>
  ga (a3 + v3) fun a4 =>
  gi a4 32 <|
  if (σ 4 a4) = p2 then
  (some (σ, a4))
  else
  (ga (v3 + 1) fun a5 =>
  rec σ a5))
  else
  (some (σ, (-4)))
set_option maxHeartbeats 4000000 in
theorem wl_Mo_find_2 {X : gX} (C : gC gctM prog_9_method_21_code kR7 5 0 0 (some .int) X) {p1 p2 : Int} : ∀ (n : Nat) (σ : gM) (a0 : Int), GG gctM X 2 [(0, .inr (.inr 0)), (1, .inl p1), (2, .inl p2), (3, .inl a0)] [] σ (gl1 (l_Mo_find_2 p1 p2) n σ a0) := by
  refine gl1_run (P := fun σ a0 o => GG gctM X 2 [(0, .inr (.inr 0)), (1, .inl p1), (2, .inl p2), (3, .inl a0)] [] σ o) (fun _ _ => g_none) (fun rec hrec σ v3 => ?_)
  unfold l_Mo_find_2
  refine g_iload_n C D_Mo_find_2 rfl 3 rfl ?_
  refine g_aload_n C D_Mo_find_3 rfl 0 rfl ?_
  refine g_get (ci := 7) C 6 (jz := 6) rfl rfl kI7 rfl (by decide) rfl rfl wf_7_23 rfl D_Mo_find_4 ?_
  refine g_icmp_ge (tgt := 50) C D_Mo_find_7 (by decide) ?_ ?_
  · refine g_bipush C D_Mo_find_50 (by decide) ⟨by decide, by decide⟩ ?_
    exact g_iret C D_Mo_find_52
  · refine g_bipush C D_Mo_find_10 (by decide) ⟨by decide, by decide⟩ ?_
    refine g_iload_n C D_Mo_find_12 rfl 1 rfl ?_
    refine g_imul C D_Mo_find_13 (fun a1 => ?_)
    refine g_aload_n C D_Mo_find_14 rfl 0 rfl ?_
    refine g_get (ci := 7) C 6 (jz := 6) rfl rfl kI7 rfl (by decide) rfl rfl wf_7_23 rfl D_Mo_find_15 ?_
    refine g_iload_n C D_Mo_find_18 rfl 2 rfl ?_
    refine g_aload_n C D_Mo_find_19 rfl 0 rfl ?_
    refine g_get (ci := 7) C 5 (jz := 5) rfl rfl kI7 rfl (by decide) rfl rfl wf_7_19 rfl D_Mo_find_20 ?_
    refine g_irem C D_Mo_find_23 ?_
    refine g_imul C D_Mo_find_24 (fun a2 => ?_)
    refine g_iadd C D_Mo_find_25 (fun a3 => ?_)
    refine g_iload_n C D_Mo_find_26 rfl 3 rfl ?_
    refine g_iadd C D_Mo_find_27 (fun a4 => ?_)
    refine g_istore (L' := [(4, .inl a4), (0, .inr (.inr 0)), (1, .inl p1), (2, .inl p2), (3, .inl v3)]) C D_Mo_find_28 (by decide) rfl ?_
    refine g_aload_n C D_Mo_find_30 rfl 1 rfl ?_
    refine g_getr (ci := 7) C 9 rfl kI7 rfl (by decide) rfl rfl wf_7_29 D_Mo_find_31 ?_
    refine g_iload C D_Mo_find_34 0 rfl ?_
    refine g_iald C rfl rfl rfl D_Mo_find_36 ?_
    refine g_iload_n C D_Mo_find_37 rfl 3 rfl ?_
    refine g_icmp_ne (tgt := 44) C D_Mo_find_38 (by decide) ?_ ?_
    · refine g_iinc (t := 4) (L' := fun z => [(3, .inl z), (4, .inl a4), (0, .inr (.inr 0)), (1, .inl p1), (2, .inl p2)]) C D_Mo_find_44 rfl (by decide) (fun _ => rfl) (fun a5 => ?_)
      refine g_goto (tgt := 2) C D_Mo_find_47 (by decide) ?_
      refine g_sub [2, 3, 4, 0] rfl ?_
      exact hrec _ _
    · refine g_iload C D_Mo_find_41 0 rfl ?_
      exact g_iret C D_Mo_find_43
def F_Mo_find (σ : gM) (v1 v2 : Int) : gO :=
  gl1 (l_Mo_find_2 v1 v2) 200 σ 0
set_option maxHeartbeats 4000000 in
theorem w_Mo_find {X : gX} (C : gC gctM prog_9_method_21_code kR7 5 0 0 (some .int) X) (σ : gM) (v1 v2 : Int) : GG gctM X 0 [(0, .inr (.inr 0)), (1, .inl v1), (2, .inl v2)] [] σ (F_Mo_find σ v1 v2) := by
  unfold F_Mo_find
  refine g_iconst C D_Mo_find_0 ⟨by decide, by decide⟩ ?_
  refine g_istore_n (L' := [(3, .inl 0), (0, .inr (.inr 0)), (1, .inl v1), (2, .inl v2)]) C D_Mo_find_1 rfl (by decide) rfl ?_
  refine g_sub [1, 2, 3, 0] rfl ?_
  exact wl_Mo_find_2 C 200 _ _
theorem c_Mo_find {σ : gM} {v1 v2 : Int} {r : gR} (ho : F_Mo_find σ v1 v2 = some r) (hok : gOk [.inr (.inr 0), .inl v1, .inl v2]) (hin : gIn gctM σ) : gCt gctM Y_Mo_find prog_9_method_21_code 5 (some .int) 0 0 [.inr (.inr 0), .inl v1, .inl v2] σ r := g_entry (by decide) rfl (Nat.le_of_ble_eq_true rfl) ho hok hin (fun X C => w_Mo_find C σ v1 v2)
theorem D_Mo_writeLine_0 : decode prog_9_method_22_code 0 = .ok (.iconst 0, 1) := by decide +kernel
theorem D_Mo_writeLine_1 : decode prog_9_method_22_code 1 = .ok (.istore_n 2, 1) := by decide +kernel
theorem D_Mo_writeLine_2 : decode prog_9_method_22_code 2 = .ok (.iload_n 2, 1) := by decide +kernel
theorem D_Mo_writeLine_3 : decode prog_9_method_22_code 3 = .ok (.bipush 8, 2) := by decide +kernel
theorem D_Mo_writeLine_5 : decode prog_9_method_22_code 5 = .ok (.if_icmp .ge 52, 3) := by decide +kernel
theorem D_Mo_writeLine_8 : decode prog_9_method_22_code 8 = .ok (.aload_n 0, 1) := by decide +kernel
theorem D_Mo_writeLine_9 : decode prog_9_method_22_code 9 = .ok (.getfield 45, 3) := by decide +kernel
theorem D_Mo_writeLine_12 : decode prog_9_method_22_code 12 = .ok (.iload_n 1, 1) := by decide +kernel
theorem D_Mo_writeLine_13 : decode prog_9_method_22_code 13 = .ok (.iaload, 1) := by decide +kernel
theorem D_Mo_writeLine_14 : decode prog_9_method_22_code 14 = .ok (.iload_n 2, 1) := by decide +kernel
theorem D_Mo_writeLine_15 : decode prog_9_method_22_code 15 = .ok (.ishr, 1) := by decide +kernel
theorem D_Mo_writeLine_16 : decode prog_9_method_22_code 16 = .ok (.iconst 1, 1) := by decide +kernel
theorem D_Mo_writeLine_17 : decode prog_9_method_22_code 17 = .ok (.iand, 1) := by decide +kernel
theorem D_Mo_writeLine_18 : decode prog_9_method_22_code 18 = .ok (.ifCond .ne 33, 3) := by decide +kernel
theorem D_Mo_writeLine_21 : decode prog_9_method_22_code 21 = .ok (.aload_n 0, 1) := by decide +kernel
theorem D_Mo_writeLine_22 : decode prog_9_method_22_code 22 = .ok (.getfield 7, 3) := by decide +kernel
theorem D_Mo_writeLine_25 : decode prog_9_method_22_code 25 = .ok (.bipush 8, 2) := by decide +kernel
theorem D_Mo_writeLine_27 : decode prog_9_method_22_code 27 = .ok (.aload_n 0, 1) := by decide +kernel
theorem D_Mo_writeLine_28 : decode prog_9_method_22_code 28 = .ok (.getfield 29, 3) := by decide +kernel
theorem D_Mo_writeLine_31 : decode prog_9_method_22_code 31 = .ok (.iload_n 1, 1) := by decide +kernel
theorem D_Mo_writeLine_32 : decode prog_9_method_22_code 32 = .ok (.iaload, 1) := by decide +kernel
theorem D_Mo_writeLine_33 : decode prog_9_method_22_code 33 = .ok (.imul, 1) := by decide +kernel
theorem D_Mo_writeLine_34 : decode prog_9_method_22_code 34 = .ok (.iload_n 2, 1) := by decide +kernel
theorem D_Mo_writeLine_35 : decode prog_9_method_22_code 35 = .ok (.iadd, 1) := by decide +kernel
theorem D_Mo_writeLine_36 : decode prog_9_method_22_code 36 = .ok (.aload_n 0, 1) := by decide +kernel
theorem D_Mo_writeLine_37 : decode prog_9_method_22_code 37 = .ok (.getfield 42, 3) := by decide +kernel
theorem D_Mo_writeLine_40 : decode prog_9_method_22_code 40 = .ok (.bipush 8, 2) := by decide +kernel
theorem D_Mo_writeLine_42 : decode prog_9_method_22_code 42 = .ok (.iload_n 1, 1) := by decide +kernel
theorem D_Mo_writeLine_43 : decode prog_9_method_22_code 43 = .ok (.imul, 1) := by decide +kernel
theorem D_Mo_writeLine_44 : decode prog_9_method_22_code 44 = .ok (.iload_n 2, 1) := by decide +kernel
theorem D_Mo_writeLine_45 : decode prog_9_method_22_code 45 = .ok (.iadd, 1) := by decide +kernel
theorem D_Mo_writeLine_46 : decode prog_9_method_22_code 46 = .ok (.iaload, 1) := by decide +kernel
theorem D_Mo_writeLine_47 : decode prog_9_method_22_code 47 = .ok (.invokestatic 164, 3) := by decide +kernel
theorem D_Mo_writeLine_50 : decode prog_9_method_22_code 50 = .ok (.iastore, 1) := by decide +kernel
theorem D_Mo_writeLine_51 : decode prog_9_method_22_code 51 = .ok (.iinc 2 1, 3) := by decide +kernel
theorem D_Mo_writeLine_54 : decode prog_9_method_22_code 54 = .ok (.goto (-52), 3) := by decide +kernel
theorem D_Mo_writeLine_57 : decode prog_9_method_22_code 57 = .ok (.aload_n 0, 1) := by decide +kernel
theorem D_Mo_writeLine_58 : decode prog_9_method_22_code 58 = .ok (.getfield 32, 3) := by decide +kernel
theorem D_Mo_writeLine_61 : decode prog_9_method_22_code 61 = .ok (.iload_n 1, 1) := by decide +kernel
theorem D_Mo_writeLine_62 : decode prog_9_method_22_code 62 = .ok (.iconst 0, 1) := by decide +kernel
theorem D_Mo_writeLine_63 : decode prog_9_method_22_code 63 = .ok (.bastore, 1) := by decide +kernel
theorem D_Mo_writeLine_64 : decode prog_9_method_22_code 64 = .ok (.return_, 1) := by decide +kernel
def j_Mo_writeLine_51 (rec : gM → Int → gO) (σ : gM) (p1 v2 : Int) : gO :=
  ga (v2 + 1) fun a1 =>
  rec σ a1
set_option maxHeartbeats 4000000 in
theorem wj_Mo_writeLine_51 {X : gX} (C : gC gctM prog_9_method_22_code kR7 3 2 45 (none) X) {p1 : Int} {rec : gM → Int → gO} (hrec : ∀ (σ : gM) (a0 : Int), GG gctM X 2 [(0, .inr (.inr 0)), (1, .inl p1), (2, .inl a0)] [] σ (rec σ a0)) (σ : gM) (v2 : Int) : GG gctM X 51 [(0, .inr (.inr 0)), (1, .inl p1), (2, .inl v2)] [] σ (j_Mo_writeLine_51 rec σ p1 v2) := by
  unfold j_Mo_writeLine_51
  refine g_iinc (t := 2) (L' := fun z => [(2, .inl z), (0, .inr (.inr 0)), (1, .inl p1)]) C D_Mo_writeLine_51 rfl (by decide) (fun _ => rfl) (fun a1 => ?_)
  refine g_goto (tgt := 2) C D_Mo_writeLine_54 (by decide) ?_
  refine g_sub [1, 2, 0] rfl ?_
  exact hrec _ _
def l_Mo_writeLine_2 (p1 : Int) (rec : gM → Int → gO) (σ : gM) (v2 : Int) : gO :=
  if v2 < 8 then
  (gi p1 32 <|
  if (gAnd (gShr (σ 9 p1) v2) 1) = 0 then
  (gi p1 32 <|
  ga (8 * (σ 4 p1)) fun a2 =>
  ga (a2 + v2) fun a3 =>
  ga (8 * p1) fun a4 =>
  ga (a4 + v2) fun a5 =>
  gi a5 256 <|
  gk (F_Mo_code σ (σ 8 a5)) fun s6 a7 =>
  gw s6 1 512 a3 a7 fun s8 =>
  j_Mo_writeLine_51 rec s8 p1 v2)
  else
  (j_Mo_writeLine_51 rec σ p1 v2))
  else
  (gwb σ 5 32 p1 0 fun s1 =>
  some (s1, 0))
set_option maxHeartbeats 4000000 in
theorem wl_Mo_writeLine_2 {X : gX} (C : gC gctM prog_9_method_22_code kR7 3 2 45 (none) X) {p1 : Int} : ∀ (n : Nat) (σ : gM) (a0 : Int), GG gctM X 2 [(0, .inr (.inr 0)), (1, .inl p1), (2, .inl a0)] [] σ (gl1 (l_Mo_writeLine_2 p1) n σ a0) := by
  refine gl1_run (P := fun σ a0 o => GG gctM X 2 [(0, .inr (.inr 0)), (1, .inl p1), (2, .inl a0)] [] σ o) (fun _ _ => g_none) (fun rec hrec σ v2 => ?_)
  unfold l_Mo_writeLine_2
  refine g_iload_n C D_Mo_writeLine_2 rfl 2 rfl ?_
  refine g_bipush C D_Mo_writeLine_3 (by decide) ⟨by decide, by decide⟩ ?_
  refine g_icmp_ge (tgt := 57) C D_Mo_writeLine_5 (by decide) ?_ ?_
  · refine g_aload_n C D_Mo_writeLine_57 rfl 0 rfl ?_
    refine g_getr (ci := 7) C 10 rfl kI7 rfl (by decide) rfl rfl wf_7_32 D_Mo_writeLine_58 ?_
    refine g_iload_n C D_Mo_writeLine_61 rfl 1 rfl ?_
    refine g_iconst C D_Mo_writeLine_62 ⟨by decide, by decide⟩ ?_
    refine g_zast C rfl rfl D_Mo_writeLine_63 (fun s1 => ?_)
    exact g_vret C D_Mo_writeLine_64
  · refine g_aload_n C D_Mo_writeLine_8 rfl 0 rfl ?_
    refine g_getr (ci := 7) C 14 rfl kI7 rfl (by decide) rfl rfl wf_7_45 D_Mo_writeLine_9 ?_
    refine g_iload_n C D_Mo_writeLine_12 rfl 1 rfl ?_
    refine g_iald C rfl rfl rfl D_Mo_writeLine_13 ?_
    refine g_iload_n C D_Mo_writeLine_14 rfl 2 rfl ?_
    refine g_ishr C D_Mo_writeLine_15 ?_
    refine g_iconst C D_Mo_writeLine_16 ⟨by decide, by decide⟩ ?_
    refine g_iand C D_Mo_writeLine_17 ?_
    refine g_if_ne (tgt := 51) C D_Mo_writeLine_18 (by decide) ?_ ?_
    · exact wj_Mo_writeLine_51 C hrec _ _
    · refine g_aload_n C D_Mo_writeLine_21 rfl 0 rfl ?_
      refine g_getr (ci := 7) C 0 rfl kI7 rfl (by decide) rfl rfl wf_7_7 D_Mo_writeLine_22 ?_
      refine g_bipush C D_Mo_writeLine_25 (by decide) ⟨by decide, by decide⟩ ?_
      refine g_aload_n C D_Mo_writeLine_27 rfl 0 rfl ?_
      refine g_getr (ci := 7) C 9 rfl kI7 rfl (by decide) rfl rfl wf_7_29 D_Mo_writeLine_28 ?_
      refine g_iload_n C D_Mo_writeLine_31 rfl 1 rfl ?_
      refine g_iald C rfl rfl rfl D_Mo_writeLine_32 ?_
      refine g_imul C D_Mo_writeLine_33 (fun a2 => ?_)
      refine g_iload_n C D_Mo_writeLine_34 rfl 2 rfl ?_
      refine g_iadd C D_Mo_writeLine_35 (fun a3 => ?_)
      refine g_aload_n C D_Mo_writeLine_36 rfl 0 rfl ?_
      refine g_getr (ci := 7) C 13 rfl kI7 rfl (by decide) rfl rfl wf_7_42 D_Mo_writeLine_37 ?_
      refine g_bipush C D_Mo_writeLine_40 (by decide) ⟨by decide, by decide⟩ ?_
      refine g_iload_n C D_Mo_writeLine_42 rfl 1 rfl ?_
      refine g_imul C D_Mo_writeLine_43 (fun a4 => ?_)
      refine g_iload_n C D_Mo_writeLine_44 rfl 2 rfl ?_
      refine g_iadd C D_Mo_writeLine_45 (fun a5 => ?_)
      refine g_iald C rfl rfl rfl D_Mo_writeLine_46 ?_
      refine g_callSi C [.inl (σ 8 a5)] [.inl a3, .inr (.inr 1)] (Or.inl rfl) rfl (fun _ h1 h2 h3 => c_Mo_code h1 h2 h3) wc_7_164 (by decide) (Nat.le_of_ble_eq_true rfl) D_Mo_writeLine_47 (fun s6 a7 => ?_)
      refine g_iast C rfl rfl D_Mo_writeLine_50 (fun s8 => ?_)
      exact wj_Mo_writeLine_51 C hrec _ _
def F_Mo_writeLine (σ : gM) (v1 : Int) : gO :=
  gl1 (l_Mo_writeLine_2 v1) 200 σ 0
set_option maxHeartbeats 4000000 in
theorem w_Mo_writeLine {X : gX} (C : gC gctM prog_9_method_22_code kR7 3 2 45 (none) X) (σ : gM) (v1 : Int) : GG gctM X 0 [(0, .inr (.inr 0)), (1, .inl v1)] [] σ (F_Mo_writeLine σ v1) := by
  unfold F_Mo_writeLine
  refine g_iconst C D_Mo_writeLine_0 ⟨by decide, by decide⟩ ?_
  refine g_istore_n (L' := [(2, .inl 0), (0, .inr (.inr 0)), (1, .inl v1)]) C D_Mo_writeLine_1 rfl (by decide) rfl ?_
  refine g_sub [1, 2, 0] rfl ?_
  exact wl_Mo_writeLine_2 C 200 _ _
theorem c_Mo_writeLine {σ : gM} {v1 : Int} {r : gR} (ho : F_Mo_writeLine σ v1 = some r) (hok : gOk [.inr (.inr 0), .inl v1]) (hin : gIn gctM σ) : gCt gctM Y_Mo_writeLine prog_9_method_22_code 3 (none) 2 45 [.inr (.inr 0), .inl v1] σ r := g_entry (by decide) rfl (Nat.le_of_ble_eq_true rfl) ho hok hin (fun X C => w_Mo_writeLine C σ v1)
theorem D_Mo_store_0 : decode prog_9_method_23_code 0 = .ok (.aload_n 0, 1) := by decide +kernel
theorem D_Mo_store_1 : decode prog_9_method_23_code 1 = .ok (.aload_n 0, 1) := by decide +kernel
theorem D_Mo_store_2 : decode prog_9_method_23_code 2 = .ok (.getfield 29, 3) := by decide +kernel
theorem D_Mo_store_5 : decode prog_9_method_23_code 5 = .ok (.iload_n 1, 1) := by decide +kernel
theorem D_Mo_store_6 : decode prog_9_method_23_code 6 = .ok (.iaload, 1) := by decide +kernel
theorem D_Mo_store_7 : decode prog_9_method_23_code 7 = .ok (.invokevirtual 167, 3) := by decide +kernel
theorem D_Mo_store_10 : decode prog_9_method_23_code 10 = .ok (.aload_n 0, 1) := by decide +kernel
theorem D_Mo_store_11 : decode prog_9_method_23_code 11 = .ok (.iload_n 2, 1) := by decide +kernel
theorem D_Mo_store_12 : decode prog_9_method_23_code 12 = .ok (.iconst 2, 1) := by decide +kernel
theorem D_Mo_store_13 : decode prog_9_method_23_code 13 = .ok (.invokevirtual 157, 3) := by decide +kernel
theorem D_Mo_store_16 : decode prog_9_method_23_code 16 = .ok (.aload_n 0, 1) := by decide +kernel
theorem D_Mo_store_17 : decode prog_9_method_23_code 17 = .ok (.iload_n 1, 1) := by decide +kernel
theorem D_Mo_store_18 : decode prog_9_method_23_code 18 = .ok (.invokevirtual 171, 3) := by decide +kernel
theorem D_Mo_store_21 : decode prog_9_method_23_code 21 = .ok (.return_, 1) := by decide +kernel
def F_Mo_store (σ : gM) (v1 v2 : Int) : gO :=
  gi v1 32 <|
  gk (F_Mo_openFor σ (σ 4 v1)) fun s1 _ =>
  gk (F_Mo_tick s1 v2 2) fun s2 _ =>
  gk (F_Mo_writeLine s2 v1) fun s3 _ =>
  some (s3, 0)
set_option maxHeartbeats 4000000 in
theorem w_Mo_store {X : gX} (C : gC gctM prog_9_method_23_code kR7 3 3 68 (none) X) (σ : gM) (v1 v2 : Int) : GG gctM X 0 [(0, .inr (.inr 0)), (1, .inl v1), (2, .inl v2)] [] σ (F_Mo_store σ v1 v2) := by
  unfold F_Mo_store
  refine g_aload_n C D_Mo_store_0 rfl 0 rfl ?_
  refine g_aload_n C D_Mo_store_1 rfl 0 rfl ?_
  refine g_getr (ci := 7) C 9 rfl kI7 rfl (by decide) rfl rfl wf_7_29 D_Mo_store_2 ?_
  refine g_iload_n C D_Mo_store_5 rfl 1 rfl ?_
  refine g_iald C rfl rfl rfl D_Mo_store_6 ?_
  refine g_callVv (ci := 7) C [.inl (σ 4 v1)] [] rfl rfl (fun _ h1 h2 h3 => c_Mo_openFor h1 h2 h3) rfl rfl wc_7_167 (by decide) (Nat.le_of_ble_eq_true rfl) D_Mo_store_7 (fun s1 _ => ?_)
  refine g_aload_n C D_Mo_store_10 rfl 0 rfl ?_
  refine g_iload_n C D_Mo_store_11 rfl 2 rfl ?_
  refine g_iconst C D_Mo_store_12 ⟨by decide, by decide⟩ ?_
  refine g_callVv (ci := 7) C [.inl v2, .inl 2] [] rfl rfl (fun _ h1 h2 h3 => c_Mo_tick h1 h2 h3) rfl rfl wc_7_157 (by decide) (Nat.le_of_ble_eq_true rfl) D_Mo_store_13 (fun s2 _ => ?_)
  refine g_aload_n C D_Mo_store_16 rfl 0 rfl ?_
  refine g_iload_n C D_Mo_store_17 rfl 1 rfl ?_
  refine g_callVv (ci := 7) C [.inl v1] [] rfl rfl (fun _ h1 h2 h3 => c_Mo_writeLine h1 h2 h3) rfl rfl wc_7_171 (by decide) (Nat.le_of_ble_eq_true rfl) D_Mo_store_18 (fun s3 _ => ?_)
  exact g_vret C D_Mo_store_21
theorem c_Mo_store {σ : gM} {v1 v2 : Int} {r : gR} (ho : F_Mo_store σ v1 v2 = some r) (hok : gOk [.inr (.inr 0), .inl v1, .inl v2]) (hin : gIn gctM σ) : gCt gctM Y_Mo_store prog_9_method_23_code 3 (none) 3 68 [.inr (.inr 0), .inl v1, .inl v2] σ r := g_entry (by decide) rfl (Nat.le_of_ble_eq_true rfl) ho hok hin (fun X C => w_Mo_store C σ v1 v2)
theorem D_Mo_besideMany_0 : decode prog_9_method_24_code 0 = .ok (.iconst 0, 1) := by decide +kernel
theorem D_Mo_besideMany_1 : decode prog_9_method_24_code 1 = .ok (.istore_n 2, 1) := by decide +kernel
theorem D_Mo_besideMany_2 : decode prog_9_method_24_code 2 = .ok (.iconst 0, 1) := by decide +kernel
theorem D_Mo_besideMany_3 : decode prog_9_method_24_code 3 = .ok (.istore_n 3, 1) := by decide +kernel
theorem D_Mo_besideMany_4 : decode prog_9_method_24_code 4 = .ok (.iload_n 3, 1) := by decide +kernel
theorem D_Mo_besideMany_5 : decode prog_9_method_24_code 5 = .ok (.bipush 64, 2) := by decide +kernel
theorem D_Mo_besideMany_7 : decode prog_9_method_24_code 7 = .ok (.if_icmp .ge 31, 3) := by decide +kernel
theorem D_Mo_besideMany_10 : decode prog_9_method_24_code 10 = .ok (.iload_n 2, 1) := by decide +kernel
theorem D_Mo_besideMany_11 : decode prog_9_method_24_code 11 = .ok (.aload_n 0, 1) := by decide +kernel
theorem D_Mo_besideMany_12 : decode prog_9_method_24_code 12 = .ok (.getfield 54, 3) := by decide +kernel
theorem D_Mo_besideMany_15 : decode prog_9_method_24_code 15 = .ok (.bipush 64, 2) := by decide +kernel
theorem D_Mo_besideMany_17 : decode prog_9_method_24_code 17 = .ok (.iload_n 1, 1) := by decide +kernel
theorem D_Mo_besideMany_18 : decode prog_9_method_24_code 18 = .ok (.imul, 1) := by decide +kernel
theorem D_Mo_besideMany_19 : decode prog_9_method_24_code 19 = .ok (.iload_n 3, 1) := by decide +kernel
theorem D_Mo_besideMany_20 : decode prog_9_method_24_code 20 = .ok (.iadd, 1) := by decide +kernel
theorem D_Mo_besideMany_21 : decode prog_9_method_24_code 21 = .ok (.iaload, 1) := by decide +kernel
theorem D_Mo_besideMany_22 : decode prog_9_method_24_code 22 = .ok (.ifCond .le 7, 3) := by decide +kernel
theorem D_Mo_besideMany_25 : decode prog_9_method_24_code 25 = .ok (.iconst 1, 1) := by decide +kernel
theorem D_Mo_besideMany_26 : decode prog_9_method_24_code 26 = .ok (.goto 4, 3) := by decide +kernel
theorem D_Mo_besideMany_29 : decode prog_9_method_24_code 29 = .ok (.iconst 0, 1) := by decide +kernel
theorem D_Mo_besideMany_30 : decode prog_9_method_24_code 30 = .ok (.iadd, 1) := by decide +kernel
theorem D_Mo_besideMany_31 : decode prog_9_method_24_code 31 = .ok (.istore_n 2, 1) := by decide +kernel
theorem D_Mo_besideMany_32 : decode prog_9_method_24_code 32 = .ok (.iinc 3 1, 3) := by decide +kernel
theorem D_Mo_besideMany_35 : decode prog_9_method_24_code 35 = .ok (.goto (-31), 3) := by decide +kernel
theorem D_Mo_besideMany_38 : decode prog_9_method_24_code 38 = .ok (.iload_n 2, 1) := by decide +kernel
theorem D_Mo_besideMany_39 : decode prog_9_method_24_code 39 = .ok (.ireturn, 1) := by decide +kernel
def j_Mo_besideMany_30 (rec : gM → Int → Int → gO) (σ : gM) (p1 v3 t0 t1 : Int) : gO :=
  ga (t1 + t0) fun a1 =>
  ga (v3 + 1) fun a2 =>
  rec σ a1 a2
set_option maxHeartbeats 4000000 in
theorem wj_Mo_besideMany_30 {X : gX} (C : gC gctM prog_9_method_24_code kR7 4 0 0 (some .int) X) {p1 : Int} {rec : gM → Int → Int → gO} (hrec : ∀ (σ : gM) (a0 a1 : Int), GG gctM X 4 [(0, .inr (.inr 0)), (1, .inl p1), (2, .inl a0), (3, .inl a1)] [] σ (rec σ a0 a1)) (σ : gM) (v3 t0 t1 : Int) : GG gctM X 30 [(0, .inr (.inr 0)), (1, .inl p1), (3, .inl v3)] [.inl t0, .inl t1] σ (j_Mo_besideMany_30 rec σ p1 v3 t0 t1) := by
  unfold j_Mo_besideMany_30
  refine g_iadd C D_Mo_besideMany_30 (fun a1 => ?_)
  refine g_istore_n (L' := [(2, .inl a1), (0, .inr (.inr 0)), (1, .inl p1), (3, .inl v3)]) C D_Mo_besideMany_31 rfl (by decide) rfl ?_
  refine g_iinc (t := 3) (L' := fun z => [(3, .inl z), (2, .inl a1), (0, .inr (.inr 0)), (1, .inl p1)]) C D_Mo_besideMany_32 rfl (by decide) (fun _ => rfl) (fun a2 => ?_)
  refine g_goto (tgt := 4) C D_Mo_besideMany_35 (by decide) ?_
  refine g_sub [2, 3, 1, 0] rfl ?_
  exact hrec _ _ _
def l_Mo_besideMany_4 (p1 : Int) (rec : gM → Int → Int → gO) (σ : gM) (v2 v3 : Int) : gO :=
  if v3 < 64 then
  (ga (64 * p1) fun a1 =>
  ga (a1 + v3) fun a2 =>
  gi a2 128 <|
  if 0 < (σ 12 a2) then
  (j_Mo_besideMany_30 rec σ p1 v3 1 v2)
  else
  (j_Mo_besideMany_30 rec σ p1 v3 0 v2))
  else
  (some (σ, v2))
set_option maxHeartbeats 4000000 in
theorem wl_Mo_besideMany_4 {X : gX} (C : gC gctM prog_9_method_24_code kR7 4 0 0 (some .int) X) {p1 : Int} : ∀ (n : Nat) (σ : gM) (a0 a1 : Int), GG gctM X 4 [(0, .inr (.inr 0)), (1, .inl p1), (2, .inl a0), (3, .inl a1)] [] σ (gl2 (l_Mo_besideMany_4 p1) n σ a0 a1) := by
  refine gl2_run (P := fun σ a0 a1 o => GG gctM X 4 [(0, .inr (.inr 0)), (1, .inl p1), (2, .inl a0), (3, .inl a1)] [] σ o) (fun _ _ _ => g_none) (fun rec hrec σ v2 v3 => ?_)
  unfold l_Mo_besideMany_4
  refine g_iload_n C D_Mo_besideMany_4 rfl 3 rfl ?_
  refine g_bipush C D_Mo_besideMany_5 (by decide) ⟨by decide, by decide⟩ ?_
  refine g_icmp_ge (tgt := 38) C D_Mo_besideMany_7 (by decide) ?_ ?_
  · refine g_iload_n C D_Mo_besideMany_38 rfl 2 rfl ?_
    exact g_iret C D_Mo_besideMany_39
  · refine g_iload_n C D_Mo_besideMany_10 rfl 2 rfl ?_
    refine g_aload_n C D_Mo_besideMany_11 rfl 0 rfl ?_
    refine g_getr (ci := 7) C 17 rfl kI7 rfl (by decide) rfl rfl wf_7_54 D_Mo_besideMany_12 ?_
    refine g_bipush C D_Mo_besideMany_15 (by decide) ⟨by decide, by decide⟩ ?_
    refine g_iload_n C D_Mo_besideMany_17 rfl 1 rfl ?_
    refine g_imul C D_Mo_besideMany_18 (fun a1 => ?_)
    refine g_iload_n C D_Mo_besideMany_19 rfl 3 rfl ?_
    refine g_iadd C D_Mo_besideMany_20 (fun a2 => ?_)
    refine g_iald C rfl rfl rfl D_Mo_besideMany_21 ?_
    refine g_if_le (tgt := 29) C D_Mo_besideMany_22 (by decide) ?_ ?_
    · refine g_iconst C D_Mo_besideMany_29 ⟨by decide, by decide⟩ ?_
      refine g_sub [0, 1, 3] rfl ?_
      exact wj_Mo_besideMany_30 C hrec _ _ _ _
    · refine g_iconst C D_Mo_besideMany_25 ⟨by decide, by decide⟩ ?_
      refine g_goto (tgt := 30) C D_Mo_besideMany_26 (by decide) ?_
      refine g_sub [0, 1, 3] rfl ?_
      exact wj_Mo_besideMany_30 C hrec _ _ _ _
def F_Mo_besideMany (σ : gM) (v1 : Int) : gO :=
  gl2 (l_Mo_besideMany_4 v1) 200 σ 0 0
set_option maxHeartbeats 4000000 in
theorem w_Mo_besideMany {X : gX} (C : gC gctM prog_9_method_24_code kR7 4 0 0 (some .int) X) (σ : gM) (v1 : Int) : GG gctM X 0 [(0, .inr (.inr 0)), (1, .inl v1)] [] σ (F_Mo_besideMany σ v1) := by
  unfold F_Mo_besideMany
  refine g_iconst C D_Mo_besideMany_0 ⟨by decide, by decide⟩ ?_
  refine g_istore_n (L' := [(2, .inl 0), (0, .inr (.inr 0)), (1, .inl v1)]) C D_Mo_besideMany_1 rfl (by decide) rfl ?_
  refine g_iconst C D_Mo_besideMany_2 ⟨by decide, by decide⟩ ?_
  refine g_istore_n (L' := [(3, .inl 0), (2, .inl 0), (0, .inr (.inr 0)), (1, .inl v1)]) C D_Mo_besideMany_3 rfl (by decide) rfl ?_
  refine g_sub [2, 3, 1, 0] rfl ?_
  exact wl_Mo_besideMany_4 C 200 _ _ _
theorem c_Mo_besideMany {σ : gM} {v1 : Int} {r : gR} (ho : F_Mo_besideMany σ v1 = some r) (hok : gOk [.inr (.inr 0), .inl v1]) (hin : gIn gctM σ) : gCt gctM Y_Mo_besideMany prog_9_method_24_code 4 (some .int) 0 0 [.inr (.inr 0), .inl v1] σ r := g_entry (by decide) rfl (Nat.le_of_ble_eq_true rfl) ho hok hin (fun X C => w_Mo_besideMany C σ v1)
theorem D_Mo_playBeside_0 : decode prog_9_method_25_code 0 = .ok (.aload_n 0, 1) := by decide +kernel
theorem D_Mo_playBeside_1 : decode prog_9_method_25_code 1 = .ok (.getfield 54, 3) := by decide +kernel
theorem D_Mo_playBeside_4 : decode prog_9_method_25_code 4 = .ok (.bipush 64, 2) := by decide +kernel
theorem D_Mo_playBeside_6 : decode prog_9_method_25_code 6 = .ok (.iload_n 1, 1) := by decide +kernel
theorem D_Mo_playBeside_7 : decode prog_9_method_25_code 7 = .ok (.imul, 1) := by decide +kernel
theorem D_Mo_playBeside_8 : decode prog_9_method_25_code 8 = .ok (.iload_n 2, 1) := by decide +kernel
theorem D_Mo_playBeside_9 : decode prog_9_method_25_code 9 = .ok (.iadd, 1) := by decide +kernel
theorem D_Mo_playBeside_10 : decode prog_9_method_25_code 10 = .ok (.iaload, 1) := by decide +kernel
theorem D_Mo_playBeside_11 : decode prog_9_method_25_code 11 = .ok (.ifCond .ne 101, 3) := by decide +kernel
theorem D_Mo_playBeside_14 : decode prog_9_method_25_code 14 = .ok (.aload_n 0, 1) := by decide +kernel
theorem D_Mo_playBeside_15 : decode prog_9_method_25_code 15 = .ok (.iload_n 1, 1) := by decide +kernel
theorem D_Mo_playBeside_16 : decode prog_9_method_25_code 16 = .ok (.invokevirtual 174, 3) := by decide +kernel
theorem D_Mo_playBeside_19 : decode prog_9_method_25_code 19 = .ok (.aload_n 0, 1) := by decide +kernel
theorem D_Mo_playBeside_20 : decode prog_9_method_25_code 20 = .ok (.getfield 19, 3) := by decide +kernel
theorem D_Mo_playBeside_23 : decode prog_9_method_25_code 23 = .ok (.aload_n 0, 1) := by decide +kernel
theorem D_Mo_playBeside_24 : decode prog_9_method_25_code 24 = .ok (.getfield 23, 3) := by decide +kernel
theorem D_Mo_playBeside_27 : decode prog_9_method_25_code 27 = .ok (.imul, 1) := by decide +kernel
theorem D_Mo_playBeside_28 : decode prog_9_method_25_code 28 = .ok (.if_icmp .ne 84, 3) := by decide +kernel
theorem D_Mo_playBeside_31 : decode prog_9_method_25_code 31 = .ok (.bipush (-4), 2) := by decide +kernel
theorem D_Mo_playBeside_33 : decode prog_9_method_25_code 33 = .ok (.istore_n 3, 1) := by decide +kernel
theorem D_Mo_playBeside_34 : decode prog_9_method_25_code 34 = .ok (.iconst 0, 1) := by decide +kernel
theorem D_Mo_playBeside_35 : decode prog_9_method_25_code 35 = .ok (.istore 4, 2) := by decide +kernel
theorem D_Mo_playBeside_37 : decode prog_9_method_25_code 37 = .ok (.iload 4, 2) := by decide +kernel
theorem D_Mo_playBeside_39 : decode prog_9_method_25_code 39 = .ok (.bipush 64, 2) := by decide +kernel
theorem D_Mo_playBeside_41 : decode prog_9_method_25_code 41 = .ok (.if_icmp .ge 59, 3) := by decide +kernel
theorem D_Mo_playBeside_44 : decode prog_9_method_25_code 44 = .ok (.aload_n 0, 1) := by decide +kernel
theorem D_Mo_playBeside_45 : decode prog_9_method_25_code 45 = .ok (.getfield 54, 3) := by decide +kernel
theorem D_Mo_playBeside_48 : decode prog_9_method_25_code 48 = .ok (.bipush 64, 2) := by decide +kernel
theorem D_Mo_playBeside_50 : decode prog_9_method_25_code 50 = .ok (.iload_n 1, 1) := by decide +kernel
theorem D_Mo_playBeside_51 : decode prog_9_method_25_code 51 = .ok (.imul, 1) := by decide +kernel
theorem D_Mo_playBeside_52 : decode prog_9_method_25_code 52 = .ok (.iload 4, 2) := by decide +kernel
theorem D_Mo_playBeside_54 : decode prog_9_method_25_code 54 = .ok (.iadd, 1) := by decide +kernel
theorem D_Mo_playBeside_55 : decode prog_9_method_25_code 55 = .ok (.iaload, 1) := by decide +kernel
theorem D_Mo_playBeside_56 : decode prog_9_method_25_code 56 = .ok (.ifCond .le 38, 3) := by decide +kernel
theorem D_Mo_playBeside_59 : decode prog_9_method_25_code 59 = .ok (.iload_n 3, 1) := by decide +kernel
theorem D_Mo_playBeside_60 : decode prog_9_method_25_code 60 = .ok (.bipush (-4), 2) := by decide +kernel
theorem D_Mo_playBeside_62 : decode prog_9_method_25_code 62 = .ok (.if_icmp .eq 29, 3) := by decide +kernel
theorem D_Mo_playBeside_65 : decode prog_9_method_25_code 65 = .ok (.aload_n 0, 1) := by decide +kernel
theorem D_Mo_playBeside_66 : decode prog_9_method_25_code 66 = .ok (.getfield 54, 3) := by decide +kernel
theorem D_Mo_playBeside_69 : decode prog_9_method_25_code 69 = .ok (.bipush 64, 2) := by decide +kernel
theorem D_Mo_playBeside_71 : decode prog_9_method_25_code 71 = .ok (.iload_n 1, 1) := by decide +kernel
theorem D_Mo_playBeside_72 : decode prog_9_method_25_code 72 = .ok (.imul, 1) := by decide +kernel
theorem D_Mo_playBeside_73 : decode prog_9_method_25_code 73 = .ok (.iload 4, 2) := by decide +kernel
theorem D_Mo_playBeside_75 : decode prog_9_method_25_code 75 = .ok (.iadd, 1) := by decide +kernel
theorem D_Mo_playBeside_76 : decode prog_9_method_25_code 76 = .ok (.iaload, 1) := by decide +kernel
theorem D_Mo_playBeside_77 : decode prog_9_method_25_code 77 = .ok (.aload_n 0, 1) := by decide +kernel
theorem D_Mo_playBeside_78 : decode prog_9_method_25_code 78 = .ok (.getfield 54, 3) := by decide +kernel
theorem D_Mo_playBeside_81 : decode prog_9_method_25_code 81 = .ok (.bipush 64, 2) := by decide +kernel
theorem D_Mo_playBeside_83 : decode prog_9_method_25_code 83 = .ok (.iload_n 1, 1) := by decide +kernel
theorem D_Mo_playBeside_84 : decode prog_9_method_25_code 84 = .ok (.imul, 1) := by decide +kernel
theorem D_Mo_playBeside_85 : decode prog_9_method_25_code 85 = .ok (.iload_n 3, 1) := by decide +kernel
theorem D_Mo_playBeside_86 : decode prog_9_method_25_code 86 = .ok (.iadd, 1) := by decide +kernel
theorem D_Mo_playBeside_87 : decode prog_9_method_25_code 87 = .ok (.iaload, 1) := by decide +kernel
theorem D_Mo_playBeside_88 : decode prog_9_method_25_code 88 = .ok (.if_icmp .ge 6, 3) := by decide +kernel
theorem D_Mo_playBeside_91 : decode prog_9_method_25_code 91 = .ok (.iload 4, 2) := by decide +kernel
theorem D_Mo_playBeside_93 : decode prog_9_method_25_code 93 = .ok (.istore_n 3, 1) := by decide +kernel
theorem D_Mo_playBeside_94 : decode prog_9_method_25_code 94 = .ok (.iinc 4 1, 3) := by decide +kernel
theorem D_Mo_playBeside_97 : decode prog_9_method_25_code 97 = .ok (.goto (-60), 3) := by decide +kernel
theorem D_Mo_playBeside_100 : decode prog_9_method_25_code 100 = .ok (.aload_n 0, 1) := by decide +kernel
theorem D_Mo_playBeside_101 : decode prog_9_method_25_code 101 = .ok (.getfield 54, 3) := by decide +kernel
theorem D_Mo_playBeside_104 : decode prog_9_method_25_code 104 = .ok (.bipush 64, 2) := by decide +kernel
theorem D_Mo_playBeside_106 : decode prog_9_method_25_code 106 = .ok (.iload_n 1, 1) := by decide +kernel
theorem D_Mo_playBeside_107 : decode prog_9_method_25_code 107 = .ok (.imul, 1) := by decide +kernel
theorem D_Mo_playBeside_108 : decode prog_9_method_25_code 108 = .ok (.iload_n 3, 1) := by decide +kernel
theorem D_Mo_playBeside_109 : decode prog_9_method_25_code 109 = .ok (.iadd, 1) := by decide +kernel
theorem D_Mo_playBeside_110 : decode prog_9_method_25_code 110 = .ok (.iconst 0, 1) := by decide +kernel
theorem D_Mo_playBeside_111 : decode prog_9_method_25_code 111 = .ok (.iastore, 1) := by decide +kernel
theorem D_Mo_playBeside_112 : decode prog_9_method_25_code 112 = .ok (.aload_n 0, 1) := by decide +kernel
theorem D_Mo_playBeside_113 : decode prog_9_method_25_code 113 = .ok (.getfield 54, 3) := by decide +kernel
theorem D_Mo_playBeside_116 : decode prog_9_method_25_code 116 = .ok (.bipush 64, 2) := by decide +kernel
theorem D_Mo_playBeside_118 : decode prog_9_method_25_code 118 = .ok (.iload_n 1, 1) := by decide +kernel
theorem D_Mo_playBeside_119 : decode prog_9_method_25_code 119 = .ok (.imul, 1) := by decide +kernel
theorem D_Mo_playBeside_120 : decode prog_9_method_25_code 120 = .ok (.iload_n 2, 1) := by decide +kernel
theorem D_Mo_playBeside_121 : decode prog_9_method_25_code 121 = .ok (.iadd, 1) := by decide +kernel
theorem D_Mo_playBeside_122 : decode prog_9_method_25_code 122 = .ok (.aload_n 0, 1) := by decide +kernel
theorem D_Mo_playBeside_123 : decode prog_9_method_25_code 123 = .ok (.getfield 177, 3) := by decide +kernel
theorem D_Mo_playBeside_126 : decode prog_9_method_25_code 126 = .ok (.iastore, 1) := by decide +kernel
theorem D_Mo_playBeside_127 : decode prog_9_method_25_code 127 = .ok (.return_, 1) := by decide +kernel
def j_Mo_playBeside_112 (σ : gM) (v1 v2 : Int) : gO :=
  ga (64 * v1) fun a1 =>
  ga (a1 + v2) fun a2 =>
  gw σ 12 128 a2 (σ 0 18) fun s3 =>
  some (s3, 0)
set_option maxHeartbeats 4000000 in
theorem wj_Mo_playBeside_112 {X : gX} (C : gC gctM prog_9_method_25_code kR7 5 1 23 (none) X) (σ : gM) (v1 v2 : Int) : GG gctM X 112 [(0, .inr (.inr 0)), (1, .inl v1), (2, .inl v2)] [] σ (j_Mo_playBeside_112 σ v1 v2) := by
  unfold j_Mo_playBeside_112
  refine g_aload_n C D_Mo_playBeside_112 rfl 0 rfl ?_
  refine g_getr (ci := 7) C 17 rfl kI7 rfl (by decide) rfl rfl wf_7_54 D_Mo_playBeside_113 ?_
  refine g_bipush C D_Mo_playBeside_116 (by decide) ⟨by decide, by decide⟩ ?_
  refine g_iload_n C D_Mo_playBeside_118 rfl 1 rfl ?_
  refine g_imul C D_Mo_playBeside_119 (fun a1 => ?_)
  refine g_iload_n C D_Mo_playBeside_120 rfl 2 rfl ?_
  refine g_iadd C D_Mo_playBeside_121 (fun a2 => ?_)
  refine g_aload_n C D_Mo_playBeside_122 rfl 0 rfl ?_
  refine g_get (ci := 7) C 18 (jz := 18) rfl rfl kI7 rfl (by decide) rfl rfl wf_7_177 rfl D_Mo_playBeside_123 ?_
  refine g_iast C rfl rfl D_Mo_playBeside_126 (fun s3 => ?_)
  exact g_vret C D_Mo_playBeside_127
def j_Mo_playBeside_94 (k1 : gM → Int → gO) (rec : gM → Int → Int → gO) (σ : gM) (p1 p2 v3 v4 : Int) : gO :=
  ga (v4 + 1) fun a1 =>
  rec σ v3 a1
set_option maxHeartbeats 4000000 in
theorem wj_Mo_playBeside_94 {X : gX} (C : gC gctM prog_9_method_25_code kR7 5 1 23 (none) X) {p1 p2 : Int} {k1 : gM → Int → gO} (hk1 : ∀ (σ : gM) (a0 : Int), GG gctM X 100 [(0, .inr (.inr 0)), (1, .inl p1), (2, .inl p2), (3, .inl a0)] [] σ (k1 σ a0)) {rec : gM → Int → Int → gO} (hrec : ∀ (σ : gM) (a0 a1 : Int), GG gctM X 37 [(0, .inr (.inr 0)), (1, .inl p1), (2, .inl p2), (3, .inl a0), (4, .inl a1)] [] σ (rec σ a0 a1)) (σ : gM) (v3 v4 : Int) : GG gctM X 94 [(0, .inr (.inr 0)), (1, .inl p1), (2, .inl p2), (3, .inl v3), (4, .inl v4)] [] σ (j_Mo_playBeside_94 k1 rec σ p1 p2 v3 v4) := by
  unfold j_Mo_playBeside_94
  refine g_iinc (t := 4) (L' := fun z => [(4, .inl z), (0, .inr (.inr 0)), (1, .inl p1), (2, .inl p2), (3, .inl v3)]) C D_Mo_playBeside_94 rfl (by decide) (fun _ => rfl) (fun a1 => ?_)
  refine g_goto (tgt := 37) C D_Mo_playBeside_97 (by decide) ?_
  refine g_sub [1, 2, 3, 4, 0] rfl ?_
  exact hrec _ _ _
def j_Mo_playBeside_91 (k1 : gM → Int → gO) (rec : gM → Int → Int → gO) (σ : gM) (p1 p2 v4 : Int) : gO :=
  j_Mo_playBeside_94 k1 rec σ p1 p2 v4 v4
set_option maxHeartbeats 4000000 in
theorem wj_Mo_playBeside_91 {X : gX} (C : gC gctM prog_9_method_25_code kR7 5 1 23 (none) X) {p1 p2 : Int} {k1 : gM → Int → gO} (hk1 : ∀ (σ : gM) (a0 : Int), GG gctM X 100 [(0, .inr (.inr 0)), (1, .inl p1), (2, .inl p2), (3, .inl a0)] [] σ (k1 σ a0)) {rec : gM → Int → Int → gO} (hrec : ∀ (σ : gM) (a0 a1 : Int), GG gctM X 37 [(0, .inr (.inr 0)), (1, .inl p1), (2, .inl p2), (3, .inl a0), (4, .inl a1)] [] σ (rec σ a0 a1)) (σ : gM) (v4 : Int) : GG gctM X 91 [(0, .inr (.inr 0)), (1, .inl p1), (2, .inl p2), (4, .inl v4)] [] σ (j_Mo_playBeside_91 k1 rec σ p1 p2 v4) := by
  unfold j_Mo_playBeside_91
  refine g_iload C D_Mo_playBeside_91 3 rfl ?_
  refine g_istore_n (L' := [(3, .inl v4), (0, .inr (.inr 0)), (1, .inl p1), (2, .inl p2), (4, .inl v4)]) C D_Mo_playBeside_93 rfl (by decide) rfl ?_
  refine g_sub [1, 2, 3, 0, 4] rfl ?_
  exact wj_Mo_playBeside_94 C hk1 hrec _ _ _
def l_Mo_playBeside_37 (k1 : gM → Int → gO) (p1 p2 : Int) (rec : gM → Int → Int → gO) (σ : gM) (v3 v4 : Int) : gO :=
  if v4 < 64 then
  (ga (64 * p1) fun a1 =>
  ga (a1 + v4) fun a2 =>
  gi a2 128 <|
  if 0 < (σ 12 a2) then
  (if v3 = (-4) then
  (j_Mo_playBeside_91 k1 rec σ p1 p2 v4)
  else
  (ga (64 * p1) fun a3 =>
  ga (a3 + v4) fun a4 =>
  gi a4 128 <|
  ga (64 * p1) fun a5 =>
  ga (a5 + v3) fun a6 =>
  gi a6 128 <|
  if (σ 12 a4) < (σ 12 a6) then
  (j_Mo_playBeside_91 k1 rec σ p1 p2 v4)
  else
  (j_Mo_playBeside_94 k1 rec σ p1 p2 v3 v4)))
  else
  (j_Mo_playBeside_94 k1 rec σ p1 p2 v3 v4))
  else
  (k1 σ v3)
set_option maxHeartbeats 4000000 in
theorem wl_Mo_playBeside_37 {X : gX} (C : gC gctM prog_9_method_25_code kR7 5 1 23 (none) X) {p1 p2 : Int} {k1 : gM → Int → gO} (hk1 : ∀ (σ : gM) (a0 : Int), GG gctM X 100 [(0, .inr (.inr 0)), (1, .inl p1), (2, .inl p2), (3, .inl a0)] [] σ (k1 σ a0)) : ∀ (n : Nat) (σ : gM) (a0 a1 : Int), GG gctM X 37 [(0, .inr (.inr 0)), (1, .inl p1), (2, .inl p2), (3, .inl a0), (4, .inl a1)] [] σ (gl2 (l_Mo_playBeside_37 k1 p1 p2) n σ a0 a1) := by
  refine gl2_run (P := fun σ a0 a1 o => GG gctM X 37 [(0, .inr (.inr 0)), (1, .inl p1), (2, .inl p2), (3, .inl a0), (4, .inl a1)] [] σ o) (fun _ _ _ => g_none) (fun rec hrec σ v3 v4 => ?_)
  unfold l_Mo_playBeside_37
  refine g_iload C D_Mo_playBeside_37 4 rfl ?_
  refine g_bipush C D_Mo_playBeside_39 (by decide) ⟨by decide, by decide⟩ ?_
  refine g_icmp_ge (tgt := 100) C D_Mo_playBeside_41 (by decide) ?_ ?_
  · refine g_sub [0, 1, 2, 3] rfl ?_
    exact hk1 _ _
  · refine g_aload_n C D_Mo_playBeside_44 rfl 0 rfl ?_
    refine g_getr (ci := 7) C 17 rfl kI7 rfl (by decide) rfl rfl wf_7_54 D_Mo_playBeside_45 ?_
    refine g_bipush C D_Mo_playBeside_48 (by decide) ⟨by decide, by decide⟩ ?_
    refine g_iload_n C D_Mo_playBeside_50 rfl 1 rfl ?_
    refine g_imul C D_Mo_playBeside_51 (fun a1 => ?_)
    refine g_iload C D_Mo_playBeside_52 4 rfl ?_
    refine g_iadd C D_Mo_playBeside_54 (fun a2 => ?_)
    refine g_iald C rfl rfl rfl D_Mo_playBeside_55 ?_
    refine g_if_le (tgt := 94) C D_Mo_playBeside_56 (by decide) ?_ ?_
    · exact wj_Mo_playBeside_94 C hk1 hrec _ _ _
    · refine g_iload_n C D_Mo_playBeside_59 rfl 3 rfl ?_
      refine g_bipush C D_Mo_playBeside_60 (by decide) ⟨by decide, by decide⟩ ?_
      refine g_icmp_eq (tgt := 91) C D_Mo_playBeside_62 (by decide) ?_ ?_
      · refine g_sub [0, 1, 2, 4] rfl ?_
        exact wj_Mo_playBeside_91 C hk1 hrec _ _
      · refine g_aload_n C D_Mo_playBeside_65 rfl 0 rfl ?_
        refine g_getr (ci := 7) C 17 rfl kI7 rfl (by decide) rfl rfl wf_7_54 D_Mo_playBeside_66 ?_
        refine g_bipush C D_Mo_playBeside_69 (by decide) ⟨by decide, by decide⟩ ?_
        refine g_iload_n C D_Mo_playBeside_71 rfl 1 rfl ?_
        refine g_imul C D_Mo_playBeside_72 (fun a3 => ?_)
        refine g_iload C D_Mo_playBeside_73 4 rfl ?_
        refine g_iadd C D_Mo_playBeside_75 (fun a4 => ?_)
        refine g_iald C rfl rfl rfl D_Mo_playBeside_76 ?_
        refine g_aload_n C D_Mo_playBeside_77 rfl 0 rfl ?_
        refine g_getr (ci := 7) C 17 rfl kI7 rfl (by decide) rfl rfl wf_7_54 D_Mo_playBeside_78 ?_
        refine g_bipush C D_Mo_playBeside_81 (by decide) ⟨by decide, by decide⟩ ?_
        refine g_iload_n C D_Mo_playBeside_83 rfl 1 rfl ?_
        refine g_imul C D_Mo_playBeside_84 (fun a5 => ?_)
        refine g_iload_n C D_Mo_playBeside_85 rfl 3 rfl ?_
        refine g_iadd C D_Mo_playBeside_86 (fun a6 => ?_)
        refine g_iald C rfl rfl rfl D_Mo_playBeside_87 ?_
        refine g_icmp_ge (tgt := 94) C D_Mo_playBeside_88 (by decide) ?_ ?_
        · exact wj_Mo_playBeside_94 C hk1 hrec _ _ _
        · refine g_sub [0, 1, 2, 4] rfl ?_
          exact wj_Mo_playBeside_91 C hk1 hrec _ _
def F_Mo_playBeside (σ : gM) (v1 v2 : Int) : gO :=
  ga (64 * v1) fun a1 =>
  ga (a1 + v2) fun a2 =>
  gi a2 128 <|
  if (σ 12 a2) = 0 then
  (gk (F_Mo_besideMany σ v1) fun s3 a4 =>
  ga ((s3 0 5) * (s3 0 6)) fun a5 =>
  if a4 = a5 then
  (gl2 (l_Mo_playBeside_37 (fun s7 b6 => ga (64 * v1) fun a8 =>
  ga (a8 + b6) fun a9 =>
  gw s7 12 128 a9 0 fun s10 =>
  j_Mo_playBeside_112 s10 v1 v2) v1 v2) 200 s3 (-4) 0)
  else
  (j_Mo_playBeside_112 s3 v1 v2))
  else
  (j_Mo_playBeside_112 σ v1 v2)
set_option maxHeartbeats 4000000 in
theorem w_Mo_playBeside {X : gX} (C : gC gctM prog_9_method_25_code kR7 5 1 23 (none) X) (σ : gM) (v1 v2 : Int) : GG gctM X 0 [(0, .inr (.inr 0)), (1, .inl v1), (2, .inl v2)] [] σ (F_Mo_playBeside σ v1 v2) := by
  unfold F_Mo_playBeside
  refine g_aload_n C D_Mo_playBeside_0 rfl 0 rfl ?_
  refine g_getr (ci := 7) C 17 rfl kI7 rfl (by decide) rfl rfl wf_7_54 D_Mo_playBeside_1 ?_
  refine g_bipush C D_Mo_playBeside_4 (by decide) ⟨by decide, by decide⟩ ?_
  refine g_iload_n C D_Mo_playBeside_6 rfl 1 rfl ?_
  refine g_imul C D_Mo_playBeside_7 (fun a1 => ?_)
  refine g_iload_n C D_Mo_playBeside_8 rfl 2 rfl ?_
  refine g_iadd C D_Mo_playBeside_9 (fun a2 => ?_)
  refine g_iald C rfl rfl rfl D_Mo_playBeside_10 ?_
  refine g_if_ne (tgt := 112) C D_Mo_playBeside_11 (by decide) ?_ ?_
  · exact wj_Mo_playBeside_112 C _ _ _
  · refine g_aload_n C D_Mo_playBeside_14 rfl 0 rfl ?_
    refine g_iload_n C D_Mo_playBeside_15 rfl 1 rfl ?_
    refine g_callVi (ci := 7) C [.inl v1] [] (Or.inl rfl) rfl (fun _ h1 h2 h3 => c_Mo_besideMany h1 h2 h3) rfl rfl wc_7_174 (by decide) (Nat.le_of_ble_eq_true rfl) D_Mo_playBeside_16 (fun s3 a4 => ?_)
    refine g_aload_n C D_Mo_playBeside_19 rfl 0 rfl ?_
    refine g_get (ci := 7) C 5 (jz := 5) rfl rfl kI7 rfl (by decide) rfl rfl wf_7_19 rfl D_Mo_playBeside_20 ?_
    refine g_aload_n C D_Mo_playBeside_23 rfl 0 rfl ?_
    refine g_get (ci := 7) C 6 (jz := 6) rfl rfl kI7 rfl (by decide) rfl rfl wf_7_23 rfl D_Mo_playBeside_24 ?_
    refine g_imul C D_Mo_playBeside_27 (fun a5 => ?_)
    refine g_icmp_ne (tgt := 112) C D_Mo_playBeside_28 (by decide) ?_ ?_
    · exact wj_Mo_playBeside_112 C _ _ _
    · refine g_bipush C D_Mo_playBeside_31 (by decide) ⟨by decide, by decide⟩ ?_
      refine g_istore_n (L' := [(3, .inl (-4)), (0, .inr (.inr 0)), (1, .inl v1), (2, .inl v2)]) C D_Mo_playBeside_33 rfl (by decide) rfl ?_
      refine g_iconst C D_Mo_playBeside_34 ⟨by decide, by decide⟩ ?_
      refine g_istore (L' := [(4, .inl 0), (3, .inl (-4)), (0, .inr (.inr 0)), (1, .inl v1), (2, .inl v2)]) C D_Mo_playBeside_35 (by decide) rfl ?_
      refine g_sub [2, 3, 4, 1, 0] rfl ?_
      exact wl_Mo_playBeside_37 C (fun s7 b6 => by
          refine g_aload_n C D_Mo_playBeside_100 rfl 0 rfl ?_
          refine g_getr (ci := 7) C 17 rfl kI7 rfl (by decide) rfl rfl wf_7_54 D_Mo_playBeside_101 ?_
          refine g_bipush C D_Mo_playBeside_104 (by decide) ⟨by decide, by decide⟩ ?_
          refine g_iload_n C D_Mo_playBeside_106 rfl 1 rfl ?_
          refine g_imul C D_Mo_playBeside_107 (fun a8 => ?_)
          refine g_iload_n C D_Mo_playBeside_108 rfl 3 rfl ?_
          refine g_iadd C D_Mo_playBeside_109 (fun a9 => ?_)
          refine g_iconst C D_Mo_playBeside_110 ⟨by decide, by decide⟩ ?_
          refine g_iast C rfl rfl D_Mo_playBeside_111 (fun s10 => ?_)
          refine g_sub [0, 1, 2] rfl ?_
          exact wj_Mo_playBeside_112 C _ _ _) 200 _ _ _
theorem c_Mo_playBeside {σ : gM} {v1 v2 : Int} {r : gR} (ho : F_Mo_playBeside σ v1 v2 = some r) (hok : gOk [.inr (.inr 0), .inl v1, .inl v2]) (hin : gIn gctM σ) : gCt gctM Y_Mo_playBeside prog_9_method_25_code 5 (none) 1 23 [.inr (.inr 0), .inl v1, .inl v2] σ r := g_entry (by decide) rfl (Nat.le_of_ble_eq_true rfl) ho hok hin (fun X C => w_Mo_playBeside C σ v1 v2)
theorem D_Mo_causeOf_0 : decode prog_9_method_26_code 0 = .ok (.bipush 64, 2) := by decide +kernel
theorem D_Mo_causeOf_2 : decode prog_9_method_26_code 2 = .ok (.iload_n 1, 1) := by decide +kernel
theorem D_Mo_causeOf_3 : decode prog_9_method_26_code 3 = .ok (.imul, 1) := by decide +kernel
theorem D_Mo_causeOf_4 : decode prog_9_method_26_code 4 = .ok (.iload_n 2, 1) := by decide +kernel
theorem D_Mo_causeOf_5 : decode prog_9_method_26_code 5 = .ok (.iadd, 1) := by decide +kernel
theorem D_Mo_causeOf_6 : decode prog_9_method_26_code 6 = .ok (.istore_n 3, 1) := by decide +kernel
theorem D_Mo_causeOf_7 : decode prog_9_method_26_code 7 = .ok (.aload_n 0, 1) := by decide +kernel
theorem D_Mo_causeOf_8 : decode prog_9_method_26_code 8 = .ok (.getfield 48, 3) := by decide +kernel
theorem D_Mo_causeOf_11 : decode prog_9_method_26_code 11 = .ok (.iload_n 3, 1) := by decide +kernel
theorem D_Mo_causeOf_12 : decode prog_9_method_26_code 12 = .ok (.baload, 1) := by decide +kernel
theorem D_Mo_causeOf_13 : decode prog_9_method_26_code 13 = .ok (.ifCond .ne 7, 3) := by decide +kernel
theorem D_Mo_causeOf_16 : decode prog_9_method_26_code 16 = .ok (.iconst 2, 1) := by decide +kernel
theorem D_Mo_causeOf_17 : decode prog_9_method_26_code 17 = .ok (.goto 30, 3) := by decide +kernel
theorem D_Mo_causeOf_20 : decode prog_9_method_26_code 20 = .ok (.aload_n 0, 1) := by decide +kernel
theorem D_Mo_causeOf_21 : decode prog_9_method_26_code 21 = .ok (.getfield 51, 3) := by decide +kernel
theorem D_Mo_causeOf_24 : decode prog_9_method_26_code 24 = .ok (.iload_n 3, 1) := by decide +kernel
theorem D_Mo_causeOf_25 : decode prog_9_method_26_code 25 = .ok (.baload, 1) := by decide +kernel
theorem D_Mo_causeOf_26 : decode prog_9_method_26_code 26 = .ok (.ifCond .eq 7, 3) := by decide +kernel
theorem D_Mo_causeOf_29 : decode prog_9_method_26_code 29 = .ok (.iconst 3, 1) := by decide +kernel
theorem D_Mo_causeOf_30 : decode prog_9_method_26_code 30 = .ok (.goto 17, 3) := by decide +kernel
theorem D_Mo_causeOf_33 : decode prog_9_method_26_code 33 = .ok (.aload_n 0, 1) := by decide +kernel
theorem D_Mo_causeOf_34 : decode prog_9_method_26_code 34 = .ok (.getfield 54, 3) := by decide +kernel
theorem D_Mo_causeOf_37 : decode prog_9_method_26_code 37 = .ok (.iload_n 3, 1) := by decide +kernel
theorem D_Mo_causeOf_38 : decode prog_9_method_26_code 38 = .ok (.iaload, 1) := by decide +kernel
theorem D_Mo_causeOf_39 : decode prog_9_method_26_code 39 = .ok (.ifCond .ne 7, 3) := by decide +kernel
theorem D_Mo_causeOf_42 : decode prog_9_method_26_code 42 = .ok (.iconst 4, 1) := by decide +kernel
theorem D_Mo_causeOf_43 : decode prog_9_method_26_code 43 = .ok (.goto 4, 3) := by decide +kernel
theorem D_Mo_causeOf_46 : decode prog_9_method_26_code 46 = .ok (.iconst 5, 1) := by decide +kernel
theorem D_Mo_causeOf_47 : decode prog_9_method_26_code 47 = .ok (.ireturn, 1) := by decide +kernel
def j_Mo_causeOf_47 (σ : gM) (t0 : Int) : gO :=
  some (σ, t0)
set_option maxHeartbeats 4000000 in
theorem wj_Mo_causeOf_47 {X : gX} (C : gC gctM prog_9_method_26_code kR7 4 0 0 (some .int) X) (σ : gM) (t0 : Int) : GG gctM X 47 [] [.inl t0] σ (j_Mo_causeOf_47 σ t0) := by
  unfold j_Mo_causeOf_47
  exact g_iret C D_Mo_causeOf_47
def F_Mo_causeOf (σ : gM) (v1 v2 : Int) : gO :=
  ga (64 * v1) fun a1 =>
  ga (a1 + v2) fun a2 =>
  gi a2 128 <|
  if (σ 10 a2) = 0 then
  (j_Mo_causeOf_47 σ 2)
  else
  (gi a2 128 <|
  if (σ 11 a2) = 0 then
  (gi a2 128 <|
  if (σ 12 a2) = 0 then
  (j_Mo_causeOf_47 σ 4)
  else
  (j_Mo_causeOf_47 σ 5))
  else
  (j_Mo_causeOf_47 σ 3))
set_option maxHeartbeats 4000000 in
theorem w_Mo_causeOf {X : gX} (C : gC gctM prog_9_method_26_code kR7 4 0 0 (some .int) X) (σ : gM) (v1 v2 : Int) : GG gctM X 0 [(0, .inr (.inr 0)), (1, .inl v1), (2, .inl v2)] [] σ (F_Mo_causeOf σ v1 v2) := by
  unfold F_Mo_causeOf
  refine g_bipush C D_Mo_causeOf_0 (by decide) ⟨by decide, by decide⟩ ?_
  refine g_iload_n C D_Mo_causeOf_2 rfl 1 rfl ?_
  refine g_imul C D_Mo_causeOf_3 (fun a1 => ?_)
  refine g_iload_n C D_Mo_causeOf_4 rfl 2 rfl ?_
  refine g_iadd C D_Mo_causeOf_5 (fun a2 => ?_)
  refine g_istore_n (L' := [(3, .inl a2), (0, .inr (.inr 0)), (1, .inl v1), (2, .inl v2)]) C D_Mo_causeOf_6 rfl (by decide) rfl ?_
  refine g_aload_n C D_Mo_causeOf_7 rfl 1 rfl ?_
  refine g_getr (ci := 7) C 15 rfl kI7 rfl (by decide) rfl rfl wf_7_48 D_Mo_causeOf_8 ?_
  refine g_iload_n C D_Mo_causeOf_11 rfl 0 rfl ?_
  refine g_zald C rfl rfl rfl D_Mo_causeOf_12 ?_
  refine g_if_ne (tgt := 20) C D_Mo_causeOf_13 (by decide) ?_ ?_
  · refine g_aload_n C D_Mo_causeOf_20 rfl 1 rfl ?_
    refine g_getr (ci := 7) C 16 rfl kI7 rfl (by decide) rfl rfl wf_7_51 D_Mo_causeOf_21 ?_
    refine g_iload_n C D_Mo_causeOf_24 rfl 0 rfl ?_
    refine g_zald C rfl rfl rfl D_Mo_causeOf_25 ?_
    refine g_if_eq (tgt := 33) C D_Mo_causeOf_26 (by decide) ?_ ?_
    · refine g_aload_n C D_Mo_causeOf_33 rfl 1 rfl ?_
      refine g_getr (ci := 7) C 17 rfl kI7 rfl (by decide) rfl rfl wf_7_54 D_Mo_causeOf_34 ?_
      refine g_iload_n C D_Mo_causeOf_37 rfl 0 rfl ?_
      refine g_iald C rfl rfl rfl D_Mo_causeOf_38 ?_
      refine g_if_ne (tgt := 46) C D_Mo_causeOf_39 (by decide) ?_ ?_
      · refine g_iconst C D_Mo_causeOf_46 ⟨by decide, by decide⟩ ?_
        refine g_sub [] rfl ?_
        exact wj_Mo_causeOf_47 C _ _
      · refine g_iconst C D_Mo_causeOf_42 ⟨by decide, by decide⟩ ?_
        refine g_goto (tgt := 47) C D_Mo_causeOf_43 (by decide) ?_
        refine g_sub [] rfl ?_
        exact wj_Mo_causeOf_47 C _ _
    · refine g_iconst C D_Mo_causeOf_29 ⟨by decide, by decide⟩ ?_
      refine g_goto (tgt := 47) C D_Mo_causeOf_30 (by decide) ?_
      refine g_sub [] rfl ?_
      exact wj_Mo_causeOf_47 C _ _
  · refine g_iconst C D_Mo_causeOf_16 ⟨by decide, by decide⟩ ?_
    refine g_goto (tgt := 47) C D_Mo_causeOf_17 (by decide) ?_
    refine g_sub [] rfl ?_
    exact wj_Mo_causeOf_47 C _ _
theorem c_Mo_causeOf {σ : gM} {v1 v2 : Int} {r : gR} (ho : F_Mo_causeOf σ v1 v2 = some r) (hok : gOk [.inr (.inr 0), .inl v1, .inl v2]) (hin : gIn gctM σ) : gCt gctM Y_Mo_causeOf prog_9_method_26_code 4 (some .int) 0 0 [.inr (.inr 0), .inl v1, .inl v2] σ r := g_entry (by decide) rfl (Nat.le_of_ble_eq_true rfl) ho hok hin (fun X C => w_Mo_causeOf C σ v1 v2)
theorem D_Mo_roomFor_0 : decode prog_9_method_27_code 0 = .ok (.bipush 16, 2) := by decide +kernel
theorem D_Mo_roomFor_2 : decode prog_9_method_27_code 2 = .ok (.iload_n 1, 1) := by decide +kernel
theorem D_Mo_roomFor_3 : decode prog_9_method_27_code 3 = .ok (.imul, 1) := by decide +kernel
theorem D_Mo_roomFor_4 : decode prog_9_method_27_code 4 = .ok (.aload_n 0, 1) := by decide +kernel
theorem D_Mo_roomFor_5 : decode prog_9_method_27_code 5 = .ok (.getfield 23, 3) := by decide +kernel
theorem D_Mo_roomFor_8 : decode prog_9_method_27_code 8 = .ok (.iload_n 2, 1) := by decide +kernel
theorem D_Mo_roomFor_9 : decode prog_9_method_27_code 9 = .ok (.aload_n 0, 1) := by decide +kernel
theorem D_Mo_roomFor_10 : decode prog_9_method_27_code 10 = .ok (.getfield 19, 3) := by decide +kernel
theorem D_Mo_roomFor_13 : decode prog_9_method_27_code 13 = .ok (.irem, 1) := by decide +kernel
theorem D_Mo_roomFor_14 : decode prog_9_method_27_code 14 = .ok (.imul, 1) := by decide +kernel
theorem D_Mo_roomFor_15 : decode prog_9_method_27_code 15 = .ok (.iadd, 1) := by decide +kernel
theorem D_Mo_roomFor_16 : decode prog_9_method_27_code 16 = .ok (.istore 4, 2) := by decide +kernel
theorem D_Mo_roomFor_18 : decode prog_9_method_27_code 18 = .ok (.bipush (-4), 2) := by decide +kernel
theorem D_Mo_roomFor_20 : decode prog_9_method_27_code 20 = .ok (.istore 5, 2) := by decide +kernel
theorem D_Mo_roomFor_22 : decode prog_9_method_27_code 22 = .ok (.iload 4, 2) := by decide +kernel
theorem D_Mo_roomFor_24 : decode prog_9_method_27_code 24 = .ok (.istore 6, 2) := by decide +kernel
theorem D_Mo_roomFor_26 : decode prog_9_method_27_code 26 = .ok (.iload 6, 2) := by decide +kernel
theorem D_Mo_roomFor_28 : decode prog_9_method_27_code 28 = .ok (.iload 4, 2) := by decide +kernel
theorem D_Mo_roomFor_30 : decode prog_9_method_27_code 30 = .ok (.aload_n 0, 1) := by decide +kernel
theorem D_Mo_roomFor_31 : decode prog_9_method_27_code 31 = .ok (.getfield 23, 3) := by decide +kernel
theorem D_Mo_roomFor_34 : decode prog_9_method_27_code 34 = .ok (.iadd, 1) := by decide +kernel
theorem D_Mo_roomFor_35 : decode prog_9_method_27_code 35 = .ok (.if_icmp .ge 141, 3) := by decide +kernel
theorem D_Mo_roomFor_38 : decode prog_9_method_27_code 38 = .ok (.aload_n 0, 1) := by decide +kernel
theorem D_Mo_roomFor_39 : decode prog_9_method_27_code 39 = .ok (.getfield 29, 3) := by decide +kernel
theorem D_Mo_roomFor_42 : decode prog_9_method_27_code 42 = .ok (.iload 6, 2) := by decide +kernel
theorem D_Mo_roomFor_44 : decode prog_9_method_27_code 44 = .ok (.iaload, 1) := by decide +kernel
theorem D_Mo_roomFor_45 : decode prog_9_method_27_code 45 = .ok (.bipush (-4), 2) := by decide +kernel
theorem D_Mo_roomFor_47 : decode prog_9_method_27_code 47 = .ok (.if_icmp .ne 6, 3) := by decide +kernel
theorem D_Mo_roomFor_50 : decode prog_9_method_27_code 50 = .ok (.iload 6, 2) := by decide +kernel
theorem D_Mo_roomFor_52 : decode prog_9_method_27_code 52 = .ok (.ireturn, 1) := by decide +kernel
theorem D_Mo_roomFor_53 : decode prog_9_method_27_code 53 = .ok (.iload 5, 2) := by decide +kernel
theorem D_Mo_roomFor_55 : decode prog_9_method_27_code 55 = .ok (.bipush (-4), 2) := by decide +kernel
theorem D_Mo_roomFor_57 : decode prog_9_method_27_code 57 = .ok (.if_icmp .ne 10, 3) := by decide +kernel
theorem D_Mo_roomFor_60 : decode prog_9_method_27_code 60 = .ok (.iload 6, 2) := by decide +kernel
theorem D_Mo_roomFor_62 : decode prog_9_method_27_code 62 = .ok (.istore 5, 2) := by decide +kernel
theorem D_Mo_roomFor_64 : decode prog_9_method_27_code 64 = .ok (.goto 106, 3) := by decide +kernel
theorem D_Mo_roomFor_67 : decode prog_9_method_27_code 67 = .ok (.aload_n 0, 1) := by decide +kernel
theorem D_Mo_roomFor_68 : decode prog_9_method_27_code 68 = .ok (.getfield 180, 3) := by decide +kernel
theorem D_Mo_roomFor_71 : decode prog_9_method_27_code 71 = .ok (.ifCond .ne 28, 3) := by decide +kernel
theorem D_Mo_roomFor_74 : decode prog_9_method_27_code 74 = .ok (.aload_n 0, 1) := by decide +kernel
theorem D_Mo_roomFor_75 : decode prog_9_method_27_code 75 = .ok (.getfield 36, 3) := by decide +kernel
theorem D_Mo_roomFor_78 : decode prog_9_method_27_code 78 = .ok (.iload 6, 2) := by decide +kernel
theorem D_Mo_roomFor_80 : decode prog_9_method_27_code 80 = .ok (.iaload, 1) := by decide +kernel
theorem D_Mo_roomFor_81 : decode prog_9_method_27_code 81 = .ok (.aload_n 0, 1) := by decide +kernel
theorem D_Mo_roomFor_82 : decode prog_9_method_27_code 82 = .ok (.getfield 36, 3) := by decide +kernel
theorem D_Mo_roomFor_85 : decode prog_9_method_27_code 85 = .ok (.iload 5, 2) := by decide +kernel
theorem D_Mo_roomFor_87 : decode prog_9_method_27_code 87 = .ok (.iaload, 1) := by decide +kernel
theorem D_Mo_roomFor_88 : decode prog_9_method_27_code 88 = .ok (.if_icmp .ge 7, 3) := by decide +kernel
theorem D_Mo_roomFor_91 : decode prog_9_method_27_code 91 = .ok (.iconst 1, 1) := by decide +kernel
theorem D_Mo_roomFor_92 : decode prog_9_method_27_code 92 = .ok (.goto 62, 3) := by decide +kernel
theorem D_Mo_roomFor_95 : decode prog_9_method_27_code 95 = .ok (.iconst 0, 1) := by decide +kernel
theorem D_Mo_roomFor_96 : decode prog_9_method_27_code 96 = .ok (.goto 58, 3) := by decide +kernel
theorem D_Mo_roomFor_99 : decode prog_9_method_27_code 99 = .ok (.aload_n 0, 1) := by decide +kernel
theorem D_Mo_roomFor_100 : decode prog_9_method_27_code 100 = .ok (.getfield 180, 3) := by decide +kernel
theorem D_Mo_roomFor_103 : decode prog_9_method_27_code 103 = .ok (.iconst 1, 1) := by decide +kernel
theorem D_Mo_roomFor_104 : decode prog_9_method_27_code 104 = .ok (.if_icmp .ne 28, 3) := by decide +kernel
theorem D_Mo_roomFor_107 : decode prog_9_method_27_code 107 = .ok (.aload_n 0, 1) := by decide +kernel
theorem D_Mo_roomFor_108 : decode prog_9_method_27_code 108 = .ok (.getfield 39, 3) := by decide +kernel
theorem D_Mo_roomFor_111 : decode prog_9_method_27_code 111 = .ok (.iload 6, 2) := by decide +kernel
theorem D_Mo_roomFor_113 : decode prog_9_method_27_code 113 = .ok (.iaload, 1) := by decide +kernel
theorem D_Mo_roomFor_114 : decode prog_9_method_27_code 114 = .ok (.aload_n 0, 1) := by decide +kernel
theorem D_Mo_roomFor_115 : decode prog_9_method_27_code 115 = .ok (.getfield 39, 3) := by decide +kernel
theorem D_Mo_roomFor_118 : decode prog_9_method_27_code 118 = .ok (.iload 5, 2) := by decide +kernel
theorem D_Mo_roomFor_120 : decode prog_9_method_27_code 120 = .ok (.iaload, 1) := by decide +kernel
theorem D_Mo_roomFor_121 : decode prog_9_method_27_code 121 = .ok (.if_icmp .ge 7, 3) := by decide +kernel
theorem D_Mo_roomFor_124 : decode prog_9_method_27_code 124 = .ok (.iconst 1, 1) := by decide +kernel
theorem D_Mo_roomFor_125 : decode prog_9_method_27_code 125 = .ok (.goto 29, 3) := by decide +kernel
theorem D_Mo_roomFor_128 : decode prog_9_method_27_code 128 = .ok (.iconst 0, 1) := by decide +kernel
theorem D_Mo_roomFor_129 : decode prog_9_method_27_code 129 = .ok (.goto 25, 3) := by decide +kernel
theorem D_Mo_roomFor_132 : decode prog_9_method_27_code 132 = .ok (.aload_n 0, 1) := by decide +kernel
theorem D_Mo_roomFor_133 : decode prog_9_method_27_code 133 = .ok (.getfield 29, 3) := by decide +kernel
theorem D_Mo_roomFor_136 : decode prog_9_method_27_code 136 = .ok (.iload 6, 2) := by decide +kernel
theorem D_Mo_roomFor_138 : decode prog_9_method_27_code 138 = .ok (.iaload, 1) := by decide +kernel
theorem D_Mo_roomFor_139 : decode prog_9_method_27_code 139 = .ok (.aload_n 0, 1) := by decide +kernel
theorem D_Mo_roomFor_140 : decode prog_9_method_27_code 140 = .ok (.getfield 29, 3) := by decide +kernel
theorem D_Mo_roomFor_143 : decode prog_9_method_27_code 143 = .ok (.iload 5, 2) := by decide +kernel
theorem D_Mo_roomFor_145 : decode prog_9_method_27_code 145 = .ok (.iaload, 1) := by decide +kernel
theorem D_Mo_roomFor_146 : decode prog_9_method_27_code 146 = .ok (.if_icmp .ge 7, 3) := by decide +kernel
theorem D_Mo_roomFor_149 : decode prog_9_method_27_code 149 = .ok (.iconst 1, 1) := by decide +kernel
theorem D_Mo_roomFor_150 : decode prog_9_method_27_code 150 = .ok (.goto 4, 3) := by decide +kernel
theorem D_Mo_roomFor_153 : decode prog_9_method_27_code 153 = .ok (.iconst 0, 1) := by decide +kernel
theorem D_Mo_roomFor_154 : decode prog_9_method_27_code 154 = .ok (.istore 7, 2) := by decide +kernel
theorem D_Mo_roomFor_156 : decode prog_9_method_27_code 156 = .ok (.iload 7, 2) := by decide +kernel
theorem D_Mo_roomFor_158 : decode prog_9_method_27_code 158 = .ok (.ifCond .eq 8, 3) := by decide +kernel
theorem D_Mo_roomFor_161 : decode prog_9_method_27_code 161 = .ok (.iload 6, 2) := by decide +kernel
theorem D_Mo_roomFor_163 : decode prog_9_method_27_code 163 = .ok (.goto 5, 3) := by decide +kernel
theorem D_Mo_roomFor_166 : decode prog_9_method_27_code 166 = .ok (.iload 5, 2) := by decide +kernel
theorem D_Mo_roomFor_168 : decode prog_9_method_27_code 168 = .ok (.istore 5, 2) := by decide +kernel
theorem D_Mo_roomFor_170 : decode prog_9_method_27_code 170 = .ok (.iinc 6 1, 3) := by decide +kernel
theorem D_Mo_roomFor_173 : decode prog_9_method_27_code 173 = .ok (.goto (-147), 3) := by decide +kernel
theorem D_Mo_roomFor_176 : decode prog_9_method_27_code 176 = .ok (.aload_n 0, 1) := by decide +kernel
theorem D_Mo_roomFor_177 : decode prog_9_method_27_code 177 = .ok (.getfield 32, 3) := by decide +kernel
theorem D_Mo_roomFor_180 : decode prog_9_method_27_code 180 = .ok (.iload 5, 2) := by decide +kernel
theorem D_Mo_roomFor_182 : decode prog_9_method_27_code 182 = .ok (.baload, 1) := by decide +kernel
theorem D_Mo_roomFor_183 : decode prog_9_method_27_code 183 = .ok (.ifCond .eq 10, 3) := by decide +kernel
theorem D_Mo_roomFor_186 : decode prog_9_method_27_code 186 = .ok (.aload_n 0, 1) := by decide +kernel
theorem D_Mo_roomFor_187 : decode prog_9_method_27_code 187 = .ok (.iload 5, 2) := by decide +kernel
theorem D_Mo_roomFor_189 : decode prog_9_method_27_code 189 = .ok (.iload_n 3, 1) := by decide +kernel
theorem D_Mo_roomFor_190 : decode prog_9_method_27_code 190 = .ok (.invokevirtual 183, 3) := by decide +kernel
theorem D_Mo_roomFor_193 : decode prog_9_method_27_code 193 = .ok (.aload_n 0, 1) := by decide +kernel
theorem D_Mo_roomFor_194 : decode prog_9_method_27_code 194 = .ok (.getfield 29, 3) := by decide +kernel
theorem D_Mo_roomFor_197 : decode prog_9_method_27_code 197 = .ok (.iload 5, 2) := by decide +kernel
theorem D_Mo_roomFor_199 : decode prog_9_method_27_code 199 = .ok (.bipush (-4), 2) := by decide +kernel
theorem D_Mo_roomFor_201 : decode prog_9_method_27_code 201 = .ok (.iastore, 1) := by decide +kernel
theorem D_Mo_roomFor_202 : decode prog_9_method_27_code 202 = .ok (.iload 5, 2) := by decide +kernel
theorem D_Mo_roomFor_204 : decode prog_9_method_27_code 204 = .ok (.ireturn, 1) := by decide +kernel
def j_Mo_roomFor_170 (k1 : gM → Int → gO) (rec : gM → Int → Int → gO) (σ : gM) (p3 p4 v5 v6 : Int) : gO :=
  ga (v6 + 1) fun a1 =>
  rec σ v5 a1
set_option maxHeartbeats 4000000 in
theorem wj_Mo_roomFor_170 {X : gX} (C : gC gctM prog_9_method_27_code kR7 8 4 90 (some .int) X) {p3 p4 : Int} {k1 : gM → Int → gO} (hk1 : ∀ (σ : gM) (a0 : Int), GG gctM X 176 [(0, .inr (.inr 0)), (3, .inl p3), (5, .inl a0)] [] σ (k1 σ a0)) {rec : gM → Int → Int → gO} (hrec : ∀ (σ : gM) (a0 a1 : Int), GG gctM X 26 [(0, .inr (.inr 0)), (3, .inl p3), (4, .inl p4), (5, .inl a0), (6, .inl a1)] [] σ (rec σ a0 a1)) (σ : gM) (v5 v6 : Int) : GG gctM X 170 [(0, .inr (.inr 0)), (3, .inl p3), (4, .inl p4), (5, .inl v5), (6, .inl v6)] [] σ (j_Mo_roomFor_170 k1 rec σ p3 p4 v5 v6) := by
  unfold j_Mo_roomFor_170
  refine g_iinc (t := 4) (L' := fun z => [(6, .inl z), (0, .inr (.inr 0)), (3, .inl p3), (4, .inl p4), (5, .inl v5)]) C D_Mo_roomFor_170 rfl (by decide) (fun _ => rfl) (fun a1 => ?_)
  refine g_goto (tgt := 26) C D_Mo_roomFor_173 (by decide) ?_
  refine g_sub [1, 2, 3, 4, 0] rfl ?_
  exact hrec _ _ _
def j_Mo_roomFor_168 (k1 : gM → Int → gO) (rec : gM → Int → Int → gO) (σ : gM) (p3 p4 v6 t0 : Int) : gO :=
  j_Mo_roomFor_170 k1 rec σ p3 p4 t0 v6
set_option maxHeartbeats 4000000 in
theorem wj_Mo_roomFor_168 {X : gX} (C : gC gctM prog_9_method_27_code kR7 8 4 90 (some .int) X) {p3 p4 : Int} {k1 : gM → Int → gO} (hk1 : ∀ (σ : gM) (a0 : Int), GG gctM X 176 [(0, .inr (.inr 0)), (3, .inl p3), (5, .inl a0)] [] σ (k1 σ a0)) {rec : gM → Int → Int → gO} (hrec : ∀ (σ : gM) (a0 a1 : Int), GG gctM X 26 [(0, .inr (.inr 0)), (3, .inl p3), (4, .inl p4), (5, .inl a0), (6, .inl a1)] [] σ (rec σ a0 a1)) (σ : gM) (v6 t0 : Int) : GG gctM X 168 [(0, .inr (.inr 0)), (3, .inl p3), (4, .inl p4), (6, .inl v6)] [.inl t0] σ (j_Mo_roomFor_168 k1 rec σ p3 p4 v6 t0) := by
  unfold j_Mo_roomFor_168
  refine g_istore (L' := [(5, .inl t0), (0, .inr (.inr 0)), (3, .inl p3), (4, .inl p4), (6, .inl v6)]) C D_Mo_roomFor_168 (by decide) rfl ?_
  refine g_sub [1, 2, 3, 0, 4] rfl ?_
  exact wj_Mo_roomFor_170 C hk1 hrec _ _ _
def j_Mo_roomFor_154 (k1 : gM → Int → gO) (rec : gM → Int → Int → gO) (σ : gM) (p3 p4 v5 v6 t0 : Int) : gO :=
  if t0 = 0 then
  (j_Mo_roomFor_168 k1 rec σ p3 p4 v6 v5)
  else
  (j_Mo_roomFor_168 k1 rec σ p3 p4 v6 v6)
set_option maxHeartbeats 4000000 in
theorem wj_Mo_roomFor_154 {X : gX} (C : gC gctM prog_9_method_27_code kR7 8 4 90 (some .int) X) {p3 p4 : Int} {k1 : gM → Int → gO} (hk1 : ∀ (σ : gM) (a0 : Int), GG gctM X 176 [(0, .inr (.inr 0)), (3, .inl p3), (5, .inl a0)] [] σ (k1 σ a0)) {rec : gM → Int → Int → gO} (hrec : ∀ (σ : gM) (a0 a1 : Int), GG gctM X 26 [(0, .inr (.inr 0)), (3, .inl p3), (4, .inl p4), (5, .inl a0), (6, .inl a1)] [] σ (rec σ a0 a1)) (σ : gM) (v5 v6 t0 : Int) : GG gctM X 154 [(0, .inr (.inr 0)), (3, .inl p3), (4, .inl p4), (5, .inl v5), (6, .inl v6)] [.inl t0] σ (j_Mo_roomFor_154 k1 rec σ p3 p4 v5 v6 t0) := by
  unfold j_Mo_roomFor_154
  refine g_istore (L' := [(7, .inl t0), (0, .inr (.inr 0)), (3, .inl p3), (4, .inl p4), (5, .inl v5), (6, .inl v6)]) C D_Mo_roomFor_154 (by decide) rfl ?_
  refine g_iload C D_Mo_roomFor_156 0 rfl ?_
  refine g_if_eq (tgt := 166) C D_Mo_roomFor_158 (by decide) ?_ ?_
  · refine g_iload C D_Mo_roomFor_166 4 rfl ?_
    refine g_sub [1, 2, 3, 5] rfl ?_
    exact wj_Mo_roomFor_168 C hk1 hrec _ _ _
  · refine g_iload C D_Mo_roomFor_161 5 rfl ?_
    refine g_goto (tgt := 168) C D_Mo_roomFor_163 (by decide) ?_
    refine g_sub [1, 2, 3, 5] rfl ?_
    exact wj_Mo_roomFor_168 C hk1 hrec _ _ _
def l_Mo_roomFor_26 (k1 : gM → Int → gO) (p3 p4 : Int) (rec : gM → Int → Int → gO) (σ : gM) (v5 v6 : Int) : gO :=
  ga (p4 + (σ 0 6)) fun a1 =>
  if v6 < a1 then
  (gi v6 32 <|
  if (σ 4 v6) = (-4) then
  (some (σ, v6))
  else
  (if v5 = (-4) then
  (j_Mo_roomFor_170 k1 rec σ p3 p4 v6 v6)
  else
  (if (σ 0 7) = 0 then
  (gi v6 32 <|
  gi v5 32 <|
  if (σ 6 v6) < (σ 6 v5) then
  (j_Mo_roomFor_154 k1 rec σ p3 p4 v5 v6 1)
  else
  (j_Mo_roomFor_154 k1 rec σ p3 p4 v5 v6 0))
  else
  (if (σ 0 7) = 1 then
  (gi v6 32 <|
  gi v5 32 <|
  if (σ 7 v6) < (σ 7 v5) then
  (j_Mo_roomFor_154 k1 rec σ p3 p4 v5 v6 1)
  else
  (j_Mo_roomFor_154 k1 rec σ p3 p4 v5 v6 0))
  else
  (gi v6 32 <|
  gi v5 32 <|
  if (σ 4 v6) < (σ 4 v5) then
  (j_Mo_roomFor_154 k1 rec σ p3 p4 v5 v6 1)
  else
  (j_Mo_roomFor_154 k1 rec σ p3 p4 v5 v6 0))))))
  else
  (k1 σ v5)
set_option maxHeartbeats 4000000 in
theorem wl_Mo_roomFor_26 {X : gX} (C : gC gctM prog_9_method_27_code kR7 8 4 90 (some .int) X) {p3 p4 : Int} {k1 : gM → Int → gO} (hk1 : ∀ (σ : gM) (a0 : Int), GG gctM X 176 [(0, .inr (.inr 0)), (3, .inl p3), (5, .inl a0)] [] σ (k1 σ a0)) : ∀ (n : Nat) (σ : gM) (a0 a1 : Int), GG gctM X 26 [(0, .inr (.inr 0)), (3, .inl p3), (4, .inl p4), (5, .inl a0), (6, .inl a1)] [] σ (gl2 (l_Mo_roomFor_26 k1 p3 p4) n σ a0 a1) := by
  refine gl2_run (P := fun σ a0 a1 o => GG gctM X 26 [(0, .inr (.inr 0)), (3, .inl p3), (4, .inl p4), (5, .inl a0), (6, .inl a1)] [] σ o) (fun _ _ _ => g_none) (fun rec hrec σ v5 v6 => ?_)
  unfold l_Mo_roomFor_26
  refine g_iload C D_Mo_roomFor_26 4 rfl ?_
  refine g_iload C D_Mo_roomFor_28 2 rfl ?_
  refine g_aload_n C D_Mo_roomFor_30 rfl 0 rfl ?_
  refine g_get (ci := 7) C 6 (jz := 6) rfl rfl kI7 rfl (by decide) rfl rfl wf_7_23 rfl D_Mo_roomFor_31 ?_
  refine g_iadd C D_Mo_roomFor_34 (fun a1 => ?_)
  refine g_icmp_ge (tgt := 176) C D_Mo_roomFor_35 (by decide) ?_ ?_
  · refine g_sub [0, 1, 3] rfl ?_
    exact hk1 _ _
  · refine g_aload_n C D_Mo_roomFor_38 rfl 0 rfl ?_
    refine g_getr (ci := 7) C 9 rfl kI7 rfl (by decide) rfl rfl wf_7_29 D_Mo_roomFor_39 ?_
    refine g_iload C D_Mo_roomFor_42 4 rfl ?_
    refine g_iald C rfl rfl rfl D_Mo_roomFor_44 ?_
    refine g_bipush C D_Mo_roomFor_45 (by decide) ⟨by decide, by decide⟩ ?_
    refine g_icmp_ne (tgt := 53) C D_Mo_roomFor_47 (by decide) ?_ ?_
    · refine g_iload C D_Mo_roomFor_53 3 rfl ?_
      refine g_bipush C D_Mo_roomFor_55 (by decide) ⟨by decide, by decide⟩ ?_
      refine g_icmp_ne (tgt := 67) C D_Mo_roomFor_57 (by decide) ?_ ?_
      · refine g_aload_n C D_Mo_roomFor_67 rfl 0 rfl ?_
        refine g_get (ci := 7) C 7 (jz := 7) rfl rfl kI7 rfl (by decide) rfl rfl wf_7_180 rfl D_Mo_roomFor_68 ?_
        refine g_if_ne (tgt := 99) C D_Mo_roomFor_71 (by decide) ?_ ?_
        · refine g_aload_n C D_Mo_roomFor_99 rfl 0 rfl ?_
          refine g_get (ci := 7) C 7 (jz := 7) rfl rfl kI7 rfl (by decide) rfl rfl wf_7_180 rfl D_Mo_roomFor_100 ?_
          refine g_iconst C D_Mo_roomFor_103 ⟨by decide, by decide⟩ ?_
          refine g_icmp_ne (tgt := 132) C D_Mo_roomFor_104 (by decide) ?_ ?_
          · refine g_aload_n C D_Mo_roomFor_132 rfl 0 rfl ?_
            refine g_getr (ci := 7) C 9 rfl kI7 rfl (by decide) rfl rfl wf_7_29 D_Mo_roomFor_133 ?_
            refine g_iload C D_Mo_roomFor_136 4 rfl ?_
            refine g_iald C rfl rfl rfl D_Mo_roomFor_138 ?_
            refine g_aload_n C D_Mo_roomFor_139 rfl 0 rfl ?_
            refine g_getr (ci := 7) C 9 rfl kI7 rfl (by decide) rfl rfl wf_7_29 D_Mo_roomFor_140 ?_
            refine g_iload C D_Mo_roomFor_143 3 rfl ?_
            refine g_iald C rfl rfl rfl D_Mo_roomFor_145 ?_
            refine g_icmp_ge (tgt := 153) C D_Mo_roomFor_146 (by decide) ?_ ?_
            · refine g_iconst C D_Mo_roomFor_153 ⟨by decide, by decide⟩ ?_
              exact wj_Mo_roomFor_154 C hk1 hrec _ _ _ _
            · refine g_iconst C D_Mo_roomFor_149 ⟨by decide, by decide⟩ ?_
              refine g_goto (tgt := 154) C D_Mo_roomFor_150 (by decide) ?_
              exact wj_Mo_roomFor_154 C hk1 hrec _ _ _ _
          · refine g_aload_n C D_Mo_roomFor_107 rfl 0 rfl ?_
            refine g_getr (ci := 7) C 12 rfl kI7 rfl (by decide) rfl rfl wf_7_39 D_Mo_roomFor_108 ?_
            refine g_iload C D_Mo_roomFor_111 4 rfl ?_
            refine g_iald C rfl rfl rfl D_Mo_roomFor_113 ?_
            refine g_aload_n C D_Mo_roomFor_114 rfl 0 rfl ?_
            refine g_getr (ci := 7) C 12 rfl kI7 rfl (by decide) rfl rfl wf_7_39 D_Mo_roomFor_115 ?_
            refine g_iload C D_Mo_roomFor_118 3 rfl ?_
            refine g_iald C rfl rfl rfl D_Mo_roomFor_120 ?_
            refine g_icmp_ge (tgt := 128) C D_Mo_roomFor_121 (by decide) ?_ ?_
            · refine g_iconst C D_Mo_roomFor_128 ⟨by decide, by decide⟩ ?_
              refine g_goto (tgt := 154) C D_Mo_roomFor_129 (by decide) ?_
              exact wj_Mo_roomFor_154 C hk1 hrec _ _ _ _
            · refine g_iconst C D_Mo_roomFor_124 ⟨by decide, by decide⟩ ?_
              refine g_goto (tgt := 154) C D_Mo_roomFor_125 (by decide) ?_
              exact wj_Mo_roomFor_154 C hk1 hrec _ _ _ _
        · refine g_aload_n C D_Mo_roomFor_74 rfl 0 rfl ?_
          refine g_getr (ci := 7) C 11 rfl kI7 rfl (by decide) rfl rfl wf_7_36 D_Mo_roomFor_75 ?_
          refine g_iload C D_Mo_roomFor_78 4 rfl ?_
          refine g_iald C rfl rfl rfl D_Mo_roomFor_80 ?_
          refine g_aload_n C D_Mo_roomFor_81 rfl 0 rfl ?_
          refine g_getr (ci := 7) C 11 rfl kI7 rfl (by decide) rfl rfl wf_7_36 D_Mo_roomFor_82 ?_
          refine g_iload C D_Mo_roomFor_85 3 rfl ?_
          refine g_iald C rfl rfl rfl D_Mo_roomFor_87 ?_
          refine g_icmp_ge (tgt := 95) C D_Mo_roomFor_88 (by decide) ?_ ?_
          · refine g_iconst C D_Mo_roomFor_95 ⟨by decide, by decide⟩ ?_
            refine g_goto (tgt := 154) C D_Mo_roomFor_96 (by decide) ?_
            exact wj_Mo_roomFor_154 C hk1 hrec _ _ _ _
          · refine g_iconst C D_Mo_roomFor_91 ⟨by decide, by decide⟩ ?_
            refine g_goto (tgt := 154) C D_Mo_roomFor_92 (by decide) ?_
            exact wj_Mo_roomFor_154 C hk1 hrec _ _ _ _
      · refine g_iload C D_Mo_roomFor_60 4 rfl ?_
        refine g_istore (L' := [(5, .inl v6), (0, .inr (.inr 0)), (3, .inl p3), (4, .inl p4), (6, .inl v6)]) C D_Mo_roomFor_62 (by decide) rfl ?_
        refine g_goto (tgt := 170) C D_Mo_roomFor_64 (by decide) ?_
        refine g_sub [1, 2, 3, 0, 4] rfl ?_
        exact wj_Mo_roomFor_170 C hk1 hrec _ _ _
    · refine g_iload C D_Mo_roomFor_50 4 rfl ?_
      exact g_iret C D_Mo_roomFor_52
def j_Mo_roomFor_193 (σ : gM) (v5 : Int) : gO :=
  gw σ 4 32 v5 (-4) fun s1 =>
  some (s1, v5)
set_option maxHeartbeats 4000000 in
theorem wj_Mo_roomFor_193 {X : gX} (C : gC gctM prog_9_method_27_code kR7 8 4 90 (some .int) X) (σ : gM) (v5 : Int) : GG gctM X 193 [(0, .inr (.inr 0)), (5, .inl v5)] [] σ (j_Mo_roomFor_193 σ v5) := by
  unfold j_Mo_roomFor_193
  refine g_aload_n C D_Mo_roomFor_193 rfl 0 rfl ?_
  refine g_getr (ci := 7) C 9 rfl kI7 rfl (by decide) rfl rfl wf_7_29 D_Mo_roomFor_194 ?_
  refine g_iload C D_Mo_roomFor_197 1 rfl ?_
  refine g_bipush C D_Mo_roomFor_199 (by decide) ⟨by decide, by decide⟩ ?_
  refine g_iast C rfl rfl D_Mo_roomFor_201 (fun s1 => ?_)
  refine g_iload C D_Mo_roomFor_202 1 rfl ?_
  exact g_iret C D_Mo_roomFor_204
def F_Mo_roomFor (σ : gM) (v1 v2 v3 : Int) : gO :=
  ga (16 * v1) fun a1 =>
  gd v2 (σ 0 5) <|
  ga ((σ 0 6) * (v2 % (σ 0 5))) fun a2 =>
  ga (a1 + a2) fun a3 =>
  gl2 (l_Mo_roomFor_26 (fun s5 b4 => gi b4 32 <|
  if (s5 5 b4) = 0 then
  (j_Mo_roomFor_193 s5 b4)
  else
  (gk (F_Mo_store s5 b4 v3) fun s6 _ =>
  j_Mo_roomFor_193 s6 b4)) v3 a3) 200 σ (-4) a3
set_option maxHeartbeats 4000000 in
theorem w_Mo_roomFor {X : gX} (C : gC gctM prog_9_method_27_code kR7 8 4 90 (some .int) X) (σ : gM) (v1 v2 v3 : Int) : GG gctM X 0 [(0, .inr (.inr 0)), (1, .inl v1), (2, .inl v2), (3, .inl v3)] [] σ (F_Mo_roomFor σ v1 v2 v3) := by
  unfold F_Mo_roomFor
  refine g_bipush C D_Mo_roomFor_0 (by decide) ⟨by decide, by decide⟩ ?_
  refine g_iload_n C D_Mo_roomFor_2 rfl 1 rfl ?_
  refine g_imul C D_Mo_roomFor_3 (fun a1 => ?_)
  refine g_aload_n C D_Mo_roomFor_4 rfl 0 rfl ?_
  refine g_get (ci := 7) C 6 (jz := 6) rfl rfl kI7 rfl (by decide) rfl rfl wf_7_23 rfl D_Mo_roomFor_5 ?_
  refine g_iload_n C D_Mo_roomFor_8 rfl 2 rfl ?_
  refine g_aload_n C D_Mo_roomFor_9 rfl 0 rfl ?_
  refine g_get (ci := 7) C 5 (jz := 5) rfl rfl kI7 rfl (by decide) rfl rfl wf_7_19 rfl D_Mo_roomFor_10 ?_
  refine g_irem C D_Mo_roomFor_13 ?_
  refine g_imul C D_Mo_roomFor_14 (fun a2 => ?_)
  refine g_iadd C D_Mo_roomFor_15 (fun a3 => ?_)
  refine g_istore (L' := [(4, .inl a3), (0, .inr (.inr 0)), (1, .inl v1), (2, .inl v2), (3, .inl v3)]) C D_Mo_roomFor_16 (by decide) rfl ?_
  refine g_bipush C D_Mo_roomFor_18 (by decide) ⟨by decide, by decide⟩ ?_
  refine g_istore (L' := [(5, .inl (-4)), (4, .inl a3), (0, .inr (.inr 0)), (1, .inl v1), (2, .inl v2), (3, .inl v3)]) C D_Mo_roomFor_20 (by decide) rfl ?_
  refine g_iload C D_Mo_roomFor_22 1 rfl ?_
  refine g_istore (L' := [(6, .inl a3), (5, .inl (-4)), (4, .inl a3), (0, .inr (.inr 0)), (1, .inl v1), (2, .inl v2), (3, .inl v3)]) C D_Mo_roomFor_24 (by decide) rfl ?_
  refine g_sub [3, 6, 2, 1, 0] rfl ?_
  exact wl_Mo_roomFor_26 C (fun s5 b4 => by
      refine g_aload_n C D_Mo_roomFor_176 rfl 0 rfl ?_
      refine g_getr (ci := 7) C 10 rfl kI7 rfl (by decide) rfl rfl wf_7_32 D_Mo_roomFor_177 ?_
      refine g_iload C D_Mo_roomFor_180 2 rfl ?_
      refine g_zald C rfl rfl rfl D_Mo_roomFor_182 ?_
      refine g_if_eq (tgt := 193) C D_Mo_roomFor_183 (by decide) ?_ ?_
      · refine g_sub [0, 2] rfl ?_
        exact wj_Mo_roomFor_193 C _ _
      · refine g_aload_n C D_Mo_roomFor_186 rfl 0 rfl ?_
        refine g_iload C D_Mo_roomFor_187 2 rfl ?_
        refine g_iload_n C D_Mo_roomFor_189 rfl 1 rfl ?_
        refine g_callVv (ci := 7) C [.inl b4, .inl v3] [] rfl rfl (fun _ h1 h2 h3 => c_Mo_store h1 h2 h3) rfl rfl wc_7_183 (by decide) (Nat.le_of_ble_eq_true rfl) D_Mo_roomFor_190 (fun s6 _ => ?_)
        refine g_sub [0, 2] rfl ?_
        exact wj_Mo_roomFor_193 C _ _) 200 _ _ _
theorem c_Mo_roomFor {σ : gM} {v1 v2 v3 : Int} {r : gR} (ho : F_Mo_roomFor σ v1 v2 v3 = some r) (hok : gOk [.inr (.inr 0), .inl v1, .inl v2, .inl v3]) (hin : gIn gctM σ) : gCt gctM Y_Mo_roomFor prog_9_method_27_code 8 (some .int) 4 90 [.inr (.inr 0), .inl v1, .inl v2, .inl v3] σ r := g_entry (by decide) rfl (Nat.le_of_ble_eq_true rfl) ho hok hin (fun X C => w_Mo_roomFor C σ v1 v2 v3)
