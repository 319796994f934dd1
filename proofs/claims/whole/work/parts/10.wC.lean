/-! by program: functions of the methods and their walks: Le_add, Le_spend, Ca_leavePlay, Ca_joinPlay, Ca_twinOf, Ca_causeOf, Ca_goesAhead, Ca_leavingFor, Ce_openFor, Ce_righted, Ce_valueOf, Ce_read, Ce_coded, Ca_store, Ca_miss, Ca_ask, Ca_change, Ca_dismiss, Ca_reshape, Ce_outcome -/
theorem D_Le_add_0 : decode prog_5_method_3_code 0 = .ok (.aload_n 0, 1) := by decide +kernel
theorem D_Le_add_1 : decode prog_5_method_3_code 1 = .ok (.getfield 15, 3) := by decide +kernel
theorem D_Le_add_4 : decode prog_5_method_3_code 4 = .ok (.iload_n 1, 1) := by decide +kernel
theorem D_Le_add_5 : decode prog_5_method_3_code 5 = .ok (.dup2, 1) := by decide +kernel
theorem D_Le_add_6 : decode prog_5_method_3_code 6 = .ok (.iaload, 1) := by decide +kernel
theorem D_Le_add_7 : decode prog_5_method_3_code 7 = .ok (.iload_n 2, 1) := by decide +kernel
theorem D_Le_add_8 : decode prog_5_method_3_code 8 = .ok (.iadd, 1) := by decide +kernel
theorem D_Le_add_9 : decode prog_5_method_3_code 9 = .ok (.iastore, 1) := by decide +kernel
theorem D_Le_add_10 : decode prog_5_method_3_code 10 = .ok (.return_, 1) := by decide +kernel
def F_Le_add (σ : gM) (v1 v2 : Int) : gO :=
  gi v1 16 <|
  ga ((σ 4 v1) + v2) fun a1 =>
  gw σ 4 16 v1 a1 fun s2 =>
  some (s2, 0)
set_option maxHeartbeats 4000000 in
theorem w_Le_add {X : gX} (C : gC gctC prog_5_method_3_code kR3 3 0 0 (none) X) (σ : gM) (v1 v2 : Int) : GG gctC X 0 [(0, .inr (.inr 2)), (1, .inl v1), (2, .inl v2)] [] σ (F_Le_add σ v1 v2) := by
  unfold F_Le_add
  refine g_aload_n C D_Le_add_0 rfl 0 rfl ?_
  refine g_getr (ci := 3) C 1 rfl kI3 rfl (by decide) rfl rfl wf_3_15 D_Le_add_1 ?_
  refine g_iload_n C D_Le_add_4 rfl 1 rfl ?_
  refine g_dup2 C D_Le_add_5 rfl rfl ?_
  refine g_iald C rfl rfl rfl D_Le_add_6 ?_
  refine g_iload_n C D_Le_add_7 rfl 2 rfl ?_
  refine g_iadd C D_Le_add_8 (fun a1 => ?_)
  refine g_iast C rfl rfl D_Le_add_9 (fun s2 => ?_)
  exact g_vret C D_Le_add_10
theorem c_Le_add {σ : gM} {v1 v2 : Int} {r : gR} (ho : F_Le_add σ v1 v2 = some r) (hok : gOk [.inr (.inr 2), .inl v1, .inl v2]) (hin : gIn gctC σ) : gCt gctC Y_Le_add prog_5_method_3_code 3 (none) 0 0 [.inr (.inr 2), .inl v1, .inl v2] σ r := g_entry (by decide) rfl (Nat.le_of_ble_eq_true rfl) ho hok hin (fun X C => w_Le_add C σ v1 v2)
theorem D_Le_spend_0 : decode prog_5_method_2_code 0 = .ok (.aload_n 0, 1) := by decide +kernel
theorem D_Le_spend_1 : decode prog_5_method_2_code 1 = .ok (.getfield 9, 3) := by decide +kernel
theorem D_Le_spend_4 : decode prog_5_method_2_code 4 = .ok (.aload_n 0, 1) := by decide +kernel
theorem D_Le_spend_5 : decode prog_5_method_2_code 5 = .ok (.getfield 18, 3) := by decide +kernel
theorem D_Le_spend_8 : decode prog_5_method_2_code 8 = .ok (.ifCond .eq 8, 3) := by decide +kernel
theorem D_Le_spend_11 : decode prog_5_method_2_code 11 = .ok (.bipush 7, 2) := by decide +kernel
theorem D_Le_spend_13 : decode prog_5_method_2_code 13 = .ok (.goto 4, 3) := by decide +kernel
theorem D_Le_spend_16 : decode prog_5_method_2_code 16 = .ok (.iload_n 1, 1) := by decide +kernel
theorem D_Le_spend_17 : decode prog_5_method_2_code 17 = .ok (.dup2, 1) := by decide +kernel
theorem D_Le_spend_18 : decode prog_5_method_2_code 18 = .ok (.iaload, 1) := by decide +kernel
theorem D_Le_spend_19 : decode prog_5_method_2_code 19 = .ok (.iload_n 2, 1) := by decide +kernel
theorem D_Le_spend_20 : decode prog_5_method_2_code 20 = .ok (.iadd, 1) := by decide +kernel
theorem D_Le_spend_21 : decode prog_5_method_2_code 21 = .ok (.iastore, 1) := by decide +kernel
theorem D_Le_spend_22 : decode prog_5_method_2_code 22 = .ok (.aload_n 0, 1) := by decide +kernel
theorem D_Le_spend_23 : decode prog_5_method_2_code 23 = .ok (.getfield 15, 3) := by decide +kernel
theorem D_Le_spend_26 : decode prog_5_method_2_code 26 = .ok (.bipush 14, 2) := by decide +kernel
theorem D_Le_spend_28 : decode prog_5_method_2_code 28 = .ok (.dup2, 1) := by decide +kernel
theorem D_Le_spend_29 : decode prog_5_method_2_code 29 = .ok (.iaload, 1) := by decide +kernel
theorem D_Le_spend_30 : decode prog_5_method_2_code 30 = .ok (.iload_n 2, 1) := by decide +kernel
theorem D_Le_spend_31 : decode prog_5_method_2_code 31 = .ok (.iadd, 1) := by decide +kernel
theorem D_Le_spend_32 : decode prog_5_method_2_code 32 = .ok (.iastore, 1) := by decide +kernel
theorem D_Le_spend_33 : decode prog_5_method_2_code 33 = .ok (.return_, 1) := by decide +kernel
def j_Le_spend_17_3 (σ : gM) (v2 t0 : Int) : gO :=
  gi t0 8 <|
  ga ((σ 3 t0) + v2) fun a1 =>
  gw σ 3 8 t0 a1 fun s2 =>
  gi 14 16 <|
  ga ((s2 4 14) + v2) fun a3 =>
  gw s2 4 16 14 a3 fun s4 =>
  some (s4, 0)
set_option maxHeartbeats 4000000 in
theorem wj_Le_spend_17_3 {X : gX} (C : gC gctC prog_5_method_2_code kR3 3 0 0 (none) X) (σ : gM) (v2 t0 : Int) : GG gctC X 17 [(0, .inr (.inr 2)), (2, .inl v2)] [.inl t0, .inr (.inr 3)] σ (j_Le_spend_17_3 σ v2 t0) := by
  unfold j_Le_spend_17_3
  refine g_dup2 C D_Le_spend_17 rfl rfl ?_
  refine g_iald C rfl rfl rfl D_Le_spend_18 ?_
  refine g_iload_n C D_Le_spend_19 rfl 1 rfl ?_
  refine g_iadd C D_Le_spend_20 (fun a1 => ?_)
  refine g_iast C rfl rfl D_Le_spend_21 (fun s2 => ?_)
  refine g_aload_n C D_Le_spend_22 rfl 0 rfl ?_
  refine g_getr (ci := 3) C 1 rfl kI3 rfl (by decide) rfl rfl wf_3_15 D_Le_spend_23 ?_
  refine g_bipush C D_Le_spend_26 (by decide) ⟨by decide, by decide⟩ ?_
  refine g_dup2 C D_Le_spend_28 rfl rfl ?_
  refine g_iald C rfl rfl rfl D_Le_spend_29 ?_
  refine g_iload_n C D_Le_spend_30 rfl 1 rfl ?_
  refine g_iadd C D_Le_spend_31 (fun a3 => ?_)
  refine g_iast C rfl rfl D_Le_spend_32 (fun s4 => ?_)
  exact g_vret C D_Le_spend_33
def F_Le_spend (σ : gM) (v1 v2 : Int) : gO :=
  if (σ 2 2) = 0 then
  (j_Le_spend_17_3 σ v2 v1)
  else
  (j_Le_spend_17_3 σ v2 7)
set_option maxHeartbeats 4000000 in
theorem w_Le_spend {X : gX} (C : gC gctC prog_5_method_2_code kR3 3 0 0 (none) X) (σ : gM) (v1 v2 : Int) : GG gctC X 0 [(0, .inr (.inr 2)), (1, .inl v1), (2, .inl v2)] [] σ (F_Le_spend σ v1 v2) := by
  unfold F_Le_spend
  refine g_aload_n C D_Le_spend_0 rfl 0 rfl ?_
  refine g_getr (ci := 3) C 0 rfl kI3 rfl (by decide) rfl rfl wf_3_9 D_Le_spend_1 ?_
  refine g_aload_n C D_Le_spend_4 rfl 0 rfl ?_
  refine g_get (ci := 3) C 2 (jz := 2) rfl rfl kI3 rfl (by decide) rfl rfl wf_3_18 rfl D_Le_spend_5 ?_
  refine g_if_eq (tgt := 16) C D_Le_spend_8 (by decide) ?_ ?_
  · refine g_iload_n C D_Le_spend_16 rfl 1 rfl ?_
    refine g_sub [0, 2] rfl ?_
    exact wj_Le_spend_17_3 C _ _ _
  · refine g_bipush C D_Le_spend_11 (by decide) ⟨by decide, by decide⟩ ?_
    refine g_goto (tgt := 17) C D_Le_spend_13 (by decide) ?_
    refine g_sub [0, 2] rfl ?_
    exact wj_Le_spend_17_3 C _ _ _
theorem c_Le_spend {σ : gM} {v1 v2 : Int} {r : gR} (ho : F_Le_spend σ v1 v2 = some r) (hok : gOk [.inr (.inr 2), .inl v1, .inl v2]) (hin : gIn gctC σ) : gCt gctC Y_Le_spend prog_5_method_2_code 3 (none) 0 0 [.inr (.inr 2), .inl v1, .inl v2] σ r := g_entry (by decide) rfl (Nat.le_of_ble_eq_true rfl) ho hok hin (fun X C => w_Le_spend C σ v1 v2)
theorem D_Ca_leavePlay_0 : decode prog_2_method_9_code 0 = .ok (.bipush (-4), 2) := by decide +kernel
theorem D_Ca_leavePlay_2 : decode prog_2_method_9_code 2 = .ok (.istore_n 2, 1) := by decide +kernel
theorem D_Ca_leavePlay_3 : decode prog_2_method_9_code 3 = .ok (.iconst 0, 1) := by decide +kernel
theorem D_Ca_leavePlay_4 : decode prog_2_method_9_code 4 = .ok (.istore_n 3, 1) := by decide +kernel
theorem D_Ca_leavePlay_5 : decode prog_2_method_9_code 5 = .ok (.iload_n 3, 1) := by decide +kernel
theorem D_Ca_leavePlay_6 : decode prog_2_method_9_code 6 = .ok (.bipush 64, 2) := by decide +kernel
theorem D_Ca_leavePlay_8 : decode prog_2_method_9_code 8 = .ok (.if_icmp .ge 55, 3) := by decide +kernel
theorem D_Ca_leavePlay_11 : decode prog_2_method_9_code 11 = .ok (.iload_n 1, 1) := by decide +kernel
theorem D_Ca_leavePlay_12 : decode prog_2_method_9_code 12 = .ok (.bipush 64, 2) := by decide +kernel
theorem D_Ca_leavePlay_14 : decode prog_2_method_9_code 14 = .ok (.imul, 1) := by decide +kernel
theorem D_Ca_leavePlay_15 : decode prog_2_method_9_code 15 = .ok (.iload_n 3, 1) := by decide +kernel
theorem D_Ca_leavePlay_16 : decode prog_2_method_9_code 16 = .ok (.iadd, 1) := by decide +kernel
theorem D_Ca_leavePlay_17 : decode prog_2_method_9_code 17 = .ok (.istore 4, 2) := by decide +kernel
theorem D_Ca_leavePlay_19 : decode prog_2_method_9_code 19 = .ok (.aload_n 0, 1) := by decide +kernel
theorem D_Ca_leavePlay_20 : decode prog_2_method_9_code 20 = .ok (.getfield 28, 3) := by decide +kernel
theorem D_Ca_leavePlay_23 : decode prog_2_method_9_code 23 = .ok (.iload 4, 2) := by decide +kernel
theorem D_Ca_leavePlay_25 : decode prog_2_method_9_code 25 = .ok (.baload, 1) := by decide +kernel
theorem D_Ca_leavePlay_26 : decode prog_2_method_9_code 26 = .ok (.ifCond .ne 6, 3) := by decide +kernel
theorem D_Ca_leavePlay_29 : decode prog_2_method_9_code 29 = .ok (.goto 28, 3) := by decide +kernel
theorem D_Ca_leavePlay_32 : decode prog_2_method_9_code 32 = .ok (.iload_n 2, 1) := by decide +kernel
theorem D_Ca_leavePlay_33 : decode prog_2_method_9_code 33 = .ok (.bipush (-4), 2) := by decide +kernel
theorem D_Ca_leavePlay_35 : decode prog_2_method_9_code 35 = .ok (.if_icmp .eq 19, 3) := by decide +kernel
theorem D_Ca_leavePlay_38 : decode prog_2_method_9_code 38 = .ok (.aload_n 0, 1) := by decide +kernel
theorem D_Ca_leavePlay_39 : decode prog_2_method_9_code 39 = .ok (.getfield 21, 3) := by decide +kernel
theorem D_Ca_leavePlay_42 : decode prog_2_method_9_code 42 = .ok (.iload 4, 2) := by decide +kernel
theorem D_Ca_leavePlay_44 : decode prog_2_method_9_code 44 = .ok (.iaload, 1) := by decide +kernel
theorem D_Ca_leavePlay_45 : decode prog_2_method_9_code 45 = .ok (.aload_n 0, 1) := by decide +kernel
theorem D_Ca_leavePlay_46 : decode prog_2_method_9_code 46 = .ok (.getfield 21, 3) := by decide +kernel
theorem D_Ca_leavePlay_49 : decode prog_2_method_9_code 49 = .ok (.iload_n 2, 1) := by decide +kernel
theorem D_Ca_leavePlay_50 : decode prog_2_method_9_code 50 = .ok (.iaload, 1) := by decide +kernel
theorem D_Ca_leavePlay_51 : decode prog_2_method_9_code 51 = .ok (.if_icmp .ge 6, 3) := by decide +kernel
theorem D_Ca_leavePlay_54 : decode prog_2_method_9_code 54 = .ok (.iload 4, 2) := by decide +kernel
theorem D_Ca_leavePlay_56 : decode prog_2_method_9_code 56 = .ok (.istore_n 2, 1) := by decide +kernel
theorem D_Ca_leavePlay_57 : decode prog_2_method_9_code 57 = .ok (.iinc 3 1, 3) := by decide +kernel
theorem D_Ca_leavePlay_60 : decode prog_2_method_9_code 60 = .ok (.goto (-55), 3) := by decide +kernel
theorem D_Ca_leavePlay_63 : decode prog_2_method_9_code 63 = .ok (.iload_n 2, 1) := by decide +kernel
theorem D_Ca_leavePlay_64 : decode prog_2_method_9_code 64 = .ok (.bipush (-4), 2) := by decide +kernel
theorem D_Ca_leavePlay_66 : decode prog_2_method_9_code 66 = .ok (.if_icmp .ne 4, 3) := by decide +kernel
theorem D_Ca_leavePlay_69 : decode prog_2_method_9_code 69 = .ok (.return_, 1) := by decide +kernel
theorem D_Ca_leavePlay_70 : decode prog_2_method_9_code 70 = .ok (.aload_n 0, 1) := by decide +kernel
theorem D_Ca_leavePlay_71 : decode prog_2_method_9_code 71 = .ok (.getfield 28, 3) := by decide +kernel
theorem D_Ca_leavePlay_74 : decode prog_2_method_9_code 74 = .ok (.iload_n 2, 1) := by decide +kernel
theorem D_Ca_leavePlay_75 : decode prog_2_method_9_code 75 = .ok (.iconst 0, 1) := by decide +kernel
theorem D_Ca_leavePlay_76 : decode prog_2_method_9_code 76 = .ok (.bastore, 1) := by decide +kernel
theorem D_Ca_leavePlay_77 : decode prog_2_method_9_code 77 = .ok (.aload_n 0, 1) := by decide +kernel
theorem D_Ca_leavePlay_78 : decode prog_2_method_9_code 78 = .ok (.getfield 31, 3) := by decide +kernel
theorem D_Ca_leavePlay_81 : decode prog_2_method_9_code 81 = .ok (.iload_n 1, 1) := by decide +kernel
theorem D_Ca_leavePlay_82 : decode prog_2_method_9_code 82 = .ok (.dup2, 1) := by decide +kernel
theorem D_Ca_leavePlay_83 : decode prog_2_method_9_code 83 = .ok (.iaload, 1) := by decide +kernel
theorem D_Ca_leavePlay_84 : decode prog_2_method_9_code 84 = .ok (.iconst 1, 1) := by decide +kernel
theorem D_Ca_leavePlay_85 : decode prog_2_method_9_code 85 = .ok (.isub, 1) := by decide +kernel
theorem D_Ca_leavePlay_86 : decode prog_2_method_9_code 86 = .ok (.iastore, 1) := by decide +kernel
theorem D_Ca_leavePlay_87 : decode prog_2_method_9_code 87 = .ok (.return_, 1) := by decide +kernel
def j_Ca_leavePlay_57 (k1 : gM → Int → gO) (rec : gM → Int → Int → gO) (σ : gM) (p1 v2 v3 : Int) : gO :=
  ga (v3 + 1) fun a1 =>
  rec σ v2 a1
set_option maxHeartbeats 4000000 in
theorem wj_Ca_leavePlay_57 {X : gX} (C : gC gctC prog_2_method_9_code kR0 5 0 0 (none) X) {p1 : Int} {k1 : gM → Int → gO} (hk1 : ∀ (σ : gM) (a0 : Int), GG gctC X 63 [(0, .inr (.inr 9)), (1, .inl p1), (2, .inl a0)] [] σ (k1 σ a0)) {rec : gM → Int → Int → gO} (hrec : ∀ (σ : gM) (a0 a1 : Int), GG gctC X 5 [(0, .inr (.inr 9)), (1, .inl p1), (2, .inl a0), (3, .inl a1)] [] σ (rec σ a0 a1)) (σ : gM) (v2 v3 : Int) : GG gctC X 57 [(0, .inr (.inr 9)), (1, .inl p1), (2, .inl v2), (3, .inl v3)] [] σ (j_Ca_leavePlay_57 k1 rec σ p1 v2 v3) := by
  unfold j_Ca_leavePlay_57
  refine g_iinc (t := 3) (L' := fun z => [(3, .inl z), (0, .inr (.inr 9)), (1, .inl p1), (2, .inl v2)]) C D_Ca_leavePlay_57 rfl (by decide) (fun _ => rfl) (fun a1 => ?_)
  refine g_goto (tgt := 5) C D_Ca_leavePlay_60 (by decide) ?_
  refine g_sub [1, 2, 3, 0] rfl ?_
  exact hrec _ _ _
def j_Ca_leavePlay_54 (k1 : gM → Int → gO) (rec : gM → Int → Int → gO) (σ : gM) (p1 v3 v4 : Int) : gO :=
  j_Ca_leavePlay_57 k1 rec σ p1 v4 v3
set_option maxHeartbeats 4000000 in
theorem wj_Ca_leavePlay_54 {X : gX} (C : gC gctC prog_2_method_9_code kR0 5 0 0 (none) X) {p1 : Int} {k1 : gM → Int → gO} (hk1 : ∀ (σ : gM) (a0 : Int), GG gctC X 63 [(0, .inr (.inr 9)), (1, .inl p1), (2, .inl a0)] [] σ (k1 σ a0)) {rec : gM → Int → Int → gO} (hrec : ∀ (σ : gM) (a0 a1 : Int), GG gctC X 5 [(0, .inr (.inr 9)), (1, .inl p1), (2, .inl a0), (3, .inl a1)] [] σ (rec σ a0 a1)) (σ : gM) (v3 v4 : Int) : GG gctC X 54 [(0, .inr (.inr 9)), (1, .inl p1), (3, .inl v3), (4, .inl v4)] [] σ (j_Ca_leavePlay_54 k1 rec σ p1 v3 v4) := by
  unfold j_Ca_leavePlay_54
  refine g_iload C D_Ca_leavePlay_54 3 rfl ?_
  refine g_istore_n (L' := [(2, .inl v4), (0, .inr (.inr 9)), (1, .inl p1), (3, .inl v3), (4, .inl v4)]) C D_Ca_leavePlay_56 rfl (by decide) rfl ?_
  refine g_sub [1, 2, 0, 3] rfl ?_
  exact wj_Ca_leavePlay_57 C hk1 hrec _ _ _
def l_Ca_leavePlay_5 (k1 : gM → Int → gO) (p1 : Int) (rec : gM → Int → Int → gO) (σ : gM) (v2 v3 : Int) : gO :=
  if v3 < 64 then
  (ga (p1 * 64) fun a1 =>
  ga (a1 + v3) fun a2 =>
  gi a2 128 <|
  if (σ 15 a2) = 0 then
  (j_Ca_leavePlay_57 k1 rec σ p1 v2 v3)
  else
  (if v2 = (-4) then
  (j_Ca_leavePlay_54 k1 rec σ p1 v3 a2)
  else
  (gi a2 128 <|
  gi v2 128 <|
  if (σ 13 a2) < (σ 13 v2) then
  (j_Ca_leavePlay_54 k1 rec σ p1 v3 a2)
  else
  (j_Ca_leavePlay_57 k1 rec σ p1 v2 v3))))
  else
  (k1 σ v2)
set_option maxHeartbeats 4000000 in
theorem wl_Ca_leavePlay_5 {X : gX} (C : gC gctC prog_2_method_9_code kR0 5 0 0 (none) X) {p1 : Int} {k1 : gM → Int → gO} (hk1 : ∀ (σ : gM) (a0 : Int), GG gctC X 63 [(0, .inr (.inr 9)), (1, .inl p1), (2, .inl a0)] [] σ (k1 σ a0)) : ∀ (n : Nat) (σ : gM) (a0 a1 : Int), GG gctC X 5 [(0, .inr (.inr 9)), (1, .inl p1), (2, .inl a0), (3, .inl a1)] [] σ (gl2 (l_Ca_leavePlay_5 k1 p1) n σ a0 a1) := by
  refine gl2_run (P := fun σ a0 a1 o => GG gctC X 5 [(0, .inr (.inr 9)), (1, .inl p1), (2, .inl a0), (3, .inl a1)] [] σ o) (fun _ _ _ => g_none) (fun rec hrec σ v2 v3 => ?_)
  unfold l_Ca_leavePlay_5
  refine g_iload_n C D_Ca_leavePlay_5 rfl 3 rfl ?_
  refine g_bipush C D_Ca_leavePlay_6 (by decide) ⟨by decide, by decide⟩ ?_
  refine g_icmp_ge (tgt := 63) C D_Ca_leavePlay_8 (by decide) ?_ ?_
  · refine g_sub [0, 1, 2] rfl ?_
    exact hk1 _ _
  · refine g_iload_n C D_Ca_leavePlay_11 rfl 1 rfl ?_
    refine g_bipush C D_Ca_leavePlay_12 (by decide) ⟨by decide, by decide⟩ ?_
    refine g_imul C D_Ca_leavePlay_14 (fun a1 => ?_)
    refine g_iload_n C D_Ca_leavePlay_15 rfl 3 rfl ?_
    refine g_iadd C D_Ca_leavePlay_16 (fun a2 => ?_)
    refine g_istore (L' := [(4, .inl a2), (0, .inr (.inr 9)), (1, .inl p1), (2, .inl v2), (3, .inl v3)]) C D_Ca_leavePlay_17 (by decide) rfl ?_
    refine g_aload_n C D_Ca_leavePlay_19 rfl 1 rfl ?_
    refine g_getr (ci := 0) C 5 rfl kI0 rfl (by decide) rfl rfl wf_0_28 D_Ca_leavePlay_20 ?_
    refine g_iload C D_Ca_leavePlay_23 0 rfl ?_
    refine g_zald C rfl rfl rfl D_Ca_leavePlay_25 ?_
    refine g_if_ne (tgt := 32) C D_Ca_leavePlay_26 (by decide) ?_ ?_
    · refine g_iload_n C D_Ca_leavePlay_32 rfl 3 rfl ?_
      refine g_bipush C D_Ca_leavePlay_33 (by decide) ⟨by decide, by decide⟩ ?_
      refine g_icmp_eq (tgt := 54) C D_Ca_leavePlay_35 (by decide) ?_ ?_
      · refine g_sub [1, 2, 4, 0] rfl ?_
        exact wj_Ca_leavePlay_54 C hk1 hrec _ _ _
      · refine g_aload_n C D_Ca_leavePlay_38 rfl 1 rfl ?_
        refine g_getr (ci := 0) C 3 rfl kI0 rfl (by decide) rfl rfl wf_0_21 D_Ca_leavePlay_39 ?_
        refine g_iload C D_Ca_leavePlay_42 0 rfl ?_
        refine g_iald C rfl rfl rfl D_Ca_leavePlay_44 ?_
        refine g_aload_n C D_Ca_leavePlay_45 rfl 1 rfl ?_
        refine g_getr (ci := 0) C 3 rfl kI0 rfl (by decide) rfl rfl wf_0_21 D_Ca_leavePlay_46 ?_
        refine g_iload_n C D_Ca_leavePlay_49 rfl 3 rfl ?_
        refine g_iald C rfl rfl rfl D_Ca_leavePlay_50 ?_
        refine g_icmp_ge (tgt := 57) C D_Ca_leavePlay_51 (by decide) ?_ ?_
        · refine g_sub [1, 2, 3, 4] rfl ?_
          exact wj_Ca_leavePlay_57 C hk1 hrec _ _ _
        · refine g_sub [1, 2, 4, 0] rfl ?_
          exact wj_Ca_leavePlay_54 C hk1 hrec _ _ _
    · refine g_goto (tgt := 57) C D_Ca_leavePlay_29 (by decide) ?_
      refine g_sub [1, 2, 3, 4] rfl ?_
      exact wj_Ca_leavePlay_57 C hk1 hrec _ _ _
def F_Ca_leavePlay (σ : gM) (v1 : Int) : gO :=
  gl2 (l_Ca_leavePlay_5 (fun s2 b1 => if b1 = (-4) then
  (some (s2, 0))
  else
  (gwb s2 15 128 b1 0 fun s3 =>
  gi v1 2 <|
  ga ((s3 16 v1) - 1) fun a4 =>
  gw s3 16 2 v1 a4 fun s5 =>
  some (s5, 0))) v1) 200 σ (-4) 0
set_option maxHeartbeats 4000000 in
theorem w_Ca_leavePlay {X : gX} (C : gC gctC prog_2_method_9_code kR0 5 0 0 (none) X) (σ : gM) (v1 : Int) : GG gctC X 0 [(0, .inr (.inr 9)), (1, .inl v1)] [] σ (F_Ca_leavePlay σ v1) := by
  unfold F_Ca_leavePlay
  refine g_bipush C D_Ca_leavePlay_0 (by decide) ⟨by decide, by decide⟩ ?_
  refine g_istore_n (L' := [(2, .inl (-4)), (0, .inr (.inr 9)), (1, .inl v1)]) C D_Ca_leavePlay_2 rfl (by decide) rfl ?_
  refine g_iconst C D_Ca_leavePlay_3 ⟨by decide, by decide⟩ ?_
  refine g_istore_n (L' := [(3, .inl 0), (2, .inl (-4)), (0, .inr (.inr 9)), (1, .inl v1)]) C D_Ca_leavePlay_4 rfl (by decide) rfl ?_
  refine g_sub [2, 3, 1, 0] rfl ?_
  exact wl_Ca_leavePlay_5 C (fun s2 b1 => by
      refine g_iload_n C D_Ca_leavePlay_63 rfl 2 rfl ?_
      refine g_bipush C D_Ca_leavePlay_64 (by decide) ⟨by decide, by decide⟩ ?_
      refine g_icmp_ne (tgt := 70) C D_Ca_leavePlay_66 (by decide) ?_ ?_
      · refine g_aload_n C D_Ca_leavePlay_70 rfl 0 rfl ?_
        refine g_getr (ci := 0) C 5 rfl kI0 rfl (by decide) rfl rfl wf_0_28 D_Ca_leavePlay_71 ?_
        refine g_iload_n C D_Ca_leavePlay_74 rfl 2 rfl ?_
        refine g_iconst C D_Ca_leavePlay_75 ⟨by decide, by decide⟩ ?_
        refine g_zast C rfl rfl D_Ca_leavePlay_76 (fun s3 => ?_)
        refine g_aload_n C D_Ca_leavePlay_77 rfl 0 rfl ?_
        refine g_getr (ci := 0) C 6 rfl kI0 rfl (by decide) rfl rfl wf_0_31 D_Ca_leavePlay_78 ?_
        refine g_iload_n C D_Ca_leavePlay_81 rfl 1 rfl ?_
        refine g_dup2 C D_Ca_leavePlay_82 rfl rfl ?_
        refine g_iald C rfl rfl rfl D_Ca_leavePlay_83 ?_
        refine g_iconst C D_Ca_leavePlay_84 ⟨by decide, by decide⟩ ?_
        refine g_isub C D_Ca_leavePlay_85 (fun a4 => ?_)
        refine g_iast C rfl rfl D_Ca_leavePlay_86 (fun s5 => ?_)
        exact g_vret C D_Ca_leavePlay_87
      · exact g_vret C D_Ca_leavePlay_69) 200 _ _ _
theorem c_Ca_leavePlay {σ : gM} {v1 : Int} {r : gR} (ho : F_Ca_leavePlay σ v1 = some r) (hok : gOk [.inr (.inr 9), .inl v1]) (hin : gIn gctC σ) : gCt gctC Y_Ca_leavePlay prog_2_method_9_code 5 (none) 0 0 [.inr (.inr 9), .inl v1] σ r := g_entry (by decide) rfl (Nat.le_of_ble_eq_true rfl) ho hok hin (fun X C => w_Ca_leavePlay C σ v1)
theorem D_Ca_joinPlay_0 : decode prog_2_method_8_code 0 = .ok (.aload_n 0, 1) := by decide +kernel
theorem D_Ca_joinPlay_1 : decode prog_2_method_8_code 1 = .ok (.getfield 31, 3) := by decide +kernel
theorem D_Ca_joinPlay_4 : decode prog_2_method_8_code 4 = .ok (.iload_n 1, 1) := by decide +kernel
theorem D_Ca_joinPlay_5 : decode prog_2_method_8_code 5 = .ok (.iaload, 1) := by decide +kernel
theorem D_Ca_joinPlay_6 : decode prog_2_method_8_code 6 = .ok (.aload_n 0, 1) := by decide +kernel
theorem D_Ca_joinPlay_7 : decode prog_2_method_8_code 7 = .ok (.getfield 34, 3) := by decide +kernel
theorem D_Ca_joinPlay_10 : decode prog_2_method_8_code 10 = .ok (.aload_n 0, 1) := by decide +kernel
theorem D_Ca_joinPlay_11 : decode prog_2_method_8_code 11 = .ok (.getfield 38, 3) := by decide +kernel
theorem D_Ca_joinPlay_14 : decode prog_2_method_8_code 14 = .ok (.imul, 1) := by decide +kernel
theorem D_Ca_joinPlay_15 : decode prog_2_method_8_code 15 = .ok (.if_icmp .lt 8, 3) := by decide +kernel
theorem D_Ca_joinPlay_18 : decode prog_2_method_8_code 18 = .ok (.aload_n 0, 1) := by decide +kernel
theorem D_Ca_joinPlay_19 : decode prog_2_method_8_code 19 = .ok (.iload_n 1, 1) := by decide +kernel
theorem D_Ca_joinPlay_20 : decode prog_2_method_8_code 20 = .ok (.invokevirtual 106, 3) := by decide +kernel
theorem D_Ca_joinPlay_23 : decode prog_2_method_8_code 23 = .ok (.aload_n 0, 1) := by decide +kernel
theorem D_Ca_joinPlay_24 : decode prog_2_method_8_code 24 = .ok (.getfield 28, 3) := by decide +kernel
theorem D_Ca_joinPlay_27 : decode prog_2_method_8_code 27 = .ok (.iload_n 2, 1) := by decide +kernel
theorem D_Ca_joinPlay_28 : decode prog_2_method_8_code 28 = .ok (.iconst 1, 1) := by decide +kernel
theorem D_Ca_joinPlay_29 : decode prog_2_method_8_code 29 = .ok (.bastore, 1) := by decide +kernel
theorem D_Ca_joinPlay_30 : decode prog_2_method_8_code 30 = .ok (.aload_n 0, 1) := by decide +kernel
theorem D_Ca_joinPlay_31 : decode prog_2_method_8_code 31 = .ok (.getfield 31, 3) := by decide +kernel
theorem D_Ca_joinPlay_34 : decode prog_2_method_8_code 34 = .ok (.iload_n 1, 1) := by decide +kernel
theorem D_Ca_joinPlay_35 : decode prog_2_method_8_code 35 = .ok (.dup2, 1) := by decide +kernel
theorem D_Ca_joinPlay_36 : decode prog_2_method_8_code 36 = .ok (.iaload, 1) := by decide +kernel
theorem D_Ca_joinPlay_37 : decode prog_2_method_8_code 37 = .ok (.iconst 1, 1) := by decide +kernel
theorem D_Ca_joinPlay_38 : decode prog_2_method_8_code 38 = .ok (.iadd, 1) := by decide +kernel
theorem D_Ca_joinPlay_39 : decode prog_2_method_8_code 39 = .ok (.iastore, 1) := by decide +kernel
theorem D_Ca_joinPlay_40 : decode prog_2_method_8_code 40 = .ok (.return_, 1) := by decide +kernel
def j_Ca_joinPlay_23 (σ : gM) (v1 v2 : Int) : gO :=
  gwb σ 15 128 v2 1 fun s1 =>
  gi v1 2 <|
  ga ((s1 16 v1) + 1) fun a2 =>
  gw s1 16 2 v1 a2 fun s3 =>
  some (s3, 0)
set_option maxHeartbeats 4000000 in
theorem wj_Ca_joinPlay_23 {X : gX} (C : gC gctC prog_2_method_8_code kR0 3 1 24 (none) X) (σ : gM) (v1 v2 : Int) : GG gctC X 23 [(0, .inr (.inr 9)), (1, .inl v1), (2, .inl v2)] [] σ (j_Ca_joinPlay_23 σ v1 v2) := by
  unfold j_Ca_joinPlay_23
  refine g_aload_n C D_Ca_joinPlay_23 rfl 0 rfl ?_
  refine g_getr (ci := 0) C 5 rfl kI0 rfl (by decide) rfl rfl wf_0_28 D_Ca_joinPlay_24 ?_
  refine g_iload_n C D_Ca_joinPlay_27 rfl 2 rfl ?_
  refine g_iconst C D_Ca_joinPlay_28 ⟨by decide, by decide⟩ ?_
  refine g_zast C rfl rfl D_Ca_joinPlay_29 (fun s1 => ?_)
  refine g_aload_n C D_Ca_joinPlay_30 rfl 0 rfl ?_
  refine g_getr (ci := 0) C 6 rfl kI0 rfl (by decide) rfl rfl wf_0_31 D_Ca_joinPlay_31 ?_
  refine g_iload_n C D_Ca_joinPlay_34 rfl 1 rfl ?_
  refine g_dup2 C D_Ca_joinPlay_35 rfl rfl ?_
  refine g_iald C rfl rfl rfl D_Ca_joinPlay_36 ?_
  refine g_iconst C D_Ca_joinPlay_37 ⟨by decide, by decide⟩ ?_
  refine g_iadd C D_Ca_joinPlay_38 (fun a2 => ?_)
  refine g_iast C rfl rfl D_Ca_joinPlay_39 (fun s3 => ?_)
  exact g_vret C D_Ca_joinPlay_40
def F_Ca_joinPlay (σ : gM) (v1 v2 : Int) : gO :=
  gi v1 2 <|
  ga ((σ 9 7) * (σ 9 8)) fun a1 =>
  if (σ 16 v1) < a1 then
  (j_Ca_joinPlay_23 σ v1 v2)
  else
  (gk (F_Ca_leavePlay σ v1) fun s2 _ =>
  j_Ca_joinPlay_23 s2 v1 v2)
set_option maxHeartbeats 4000000 in
theorem w_Ca_joinPlay {X : gX} (C : gC gctC prog_2_method_8_code kR0 3 1 24 (none) X) (σ : gM) (v1 v2 : Int) : GG gctC X 0 [(0, .inr (.inr 9)), (1, .inl v1), (2, .inl v2)] [] σ (F_Ca_joinPlay σ v1 v2) := by
  unfold F_Ca_joinPlay
  refine g_aload_n C D_Ca_joinPlay_0 rfl 0 rfl ?_
  refine g_getr (ci := 0) C 6 rfl kI0 rfl (by decide) rfl rfl wf_0_31 D_Ca_joinPlay_1 ?_
  refine g_iload_n C D_Ca_joinPlay_4 rfl 1 rfl ?_
  refine g_iald C rfl rfl rfl D_Ca_joinPlay_5 ?_
  refine g_aload_n C D_Ca_joinPlay_6 rfl 0 rfl ?_
  refine g_get (ci := 0) C 7 (jz := 7) rfl rfl kI0 rfl (by decide) rfl rfl wf_0_34 rfl D_Ca_joinPlay_7 ?_
  refine g_aload_n C D_Ca_joinPlay_10 rfl 0 rfl ?_
  refine g_get (ci := 0) C 8 (jz := 8) rfl rfl kI0 rfl (by decide) rfl rfl wf_0_38 rfl D_Ca_joinPlay_11 ?_
  refine g_imul C D_Ca_joinPlay_14 (fun a1 => ?_)
  refine g_icmp_lt (tgt := 23) C D_Ca_joinPlay_15 (by decide) ?_ ?_
  · exact wj_Ca_joinPlay_23 C _ _ _
  · refine g_aload_n C D_Ca_joinPlay_18 rfl 0 rfl ?_
    refine g_iload_n C D_Ca_joinPlay_19 rfl 1 rfl ?_
    refine g_callVv (ci := 0) C [.inl v1] [] rfl rfl (fun _ h1 h2 h3 => c_Ca_leavePlay h1 h2 h3) rfl rfl wc_0_106 (by decide) (Nat.le_of_ble_eq_true rfl) D_Ca_joinPlay_20 (fun s2 _ => ?_)
    exact wj_Ca_joinPlay_23 C _ _ _
theorem c_Ca_joinPlay {σ : gM} {v1 v2 : Int} {r : gR} (ho : F_Ca_joinPlay σ v1 v2 = some r) (hok : gOk [.inr (.inr 9), .inl v1, .inl v2]) (hin : gIn gctC σ) : gCt gctC Y_Ca_joinPlay prog_2_method_8_code 3 (none) 1 24 [.inr (.inr 9), .inl v1, .inl v2] σ r := g_entry (by decide) rfl (Nat.le_of_ble_eq_true rfl) ho hok hin (fun X C => w_Ca_joinPlay C σ v1 v2)
theorem D_Ca_twinOf_0 : decode prog_2_method_13_code 0 = .ok (.iload_n 0, 1) := by decide +kernel
theorem D_Ca_twinOf_1 : decode prog_2_method_13_code 1 = .ok (.bipush 64, 2) := by decide +kernel
theorem D_Ca_twinOf_3 : decode prog_2_method_13_code 3 = .ok (.if_icmp .ge 10, 3) := by decide +kernel
theorem D_Ca_twinOf_6 : decode prog_2_method_13_code 6 = .ok (.iload_n 0, 1) := by decide +kernel
theorem D_Ca_twinOf_7 : decode prog_2_method_13_code 7 = .ok (.bipush 64, 2) := by decide +kernel
theorem D_Ca_twinOf_9 : decode prog_2_method_13_code 9 = .ok (.iadd, 1) := by decide +kernel
theorem D_Ca_twinOf_10 : decode prog_2_method_13_code 10 = .ok (.goto 7, 3) := by decide +kernel
theorem D_Ca_twinOf_13 : decode prog_2_method_13_code 13 = .ok (.iload_n 0, 1) := by decide +kernel
theorem D_Ca_twinOf_14 : decode prog_2_method_13_code 14 = .ok (.bipush 64, 2) := by decide +kernel
theorem D_Ca_twinOf_16 : decode prog_2_method_13_code 16 = .ok (.isub, 1) := by decide +kernel
theorem D_Ca_twinOf_17 : decode prog_2_method_13_code 17 = .ok (.ireturn, 1) := by decide +kernel
def j_Ca_twinOf_17 (σ : gM) (t0 : Int) : gO :=
  some (σ, t0)
set_option maxHeartbeats 4000000 in
theorem wj_Ca_twinOf_17 {X : gX} (C : gC gctC prog_2_method_13_code kR0 1 0 0 (some .int) X) (σ : gM) (t0 : Int) : GG gctC X 17 [] [.inl t0] σ (j_Ca_twinOf_17 σ t0) := by
  unfold j_Ca_twinOf_17
  exact g_iret C D_Ca_twinOf_17
def F_Ca_twinOf (σ : gM) (v0 : Int) : gO :=
  if v0 < 64 then
  (ga (v0 + 64) fun a2 =>
  j_Ca_twinOf_17 σ a2)
  else
  (ga (v0 - 64) fun a1 =>
  j_Ca_twinOf_17 σ a1)
set_option maxHeartbeats 4000000 in
theorem w_Ca_twinOf {X : gX} (C : gC gctC prog_2_method_13_code kR0 1 0 0 (some .int) X) (σ : gM) (v0 : Int) : GG gctC X 0 [(0, .inl v0)] [] σ (F_Ca_twinOf σ v0) := by
  unfold F_Ca_twinOf
  refine g_iload_n C D_Ca_twinOf_0 rfl 0 rfl ?_
  refine g_bipush C D_Ca_twinOf_1 (by decide) ⟨by decide, by decide⟩ ?_
  refine g_icmp_ge (tgt := 13) C D_Ca_twinOf_3 (by decide) ?_ ?_
  · refine g_iload_n C D_Ca_twinOf_13 rfl 0 rfl ?_
    refine g_bipush C D_Ca_twinOf_14 (by decide) ⟨by decide, by decide⟩ ?_
    refine g_isub C D_Ca_twinOf_16 (fun a1 => ?_)
    refine g_sub [] rfl ?_
    exact wj_Ca_twinOf_17 C _ _
  · refine g_iload_n C D_Ca_twinOf_6 rfl 0 rfl ?_
    refine g_bipush C D_Ca_twinOf_7 (by decide) ⟨by decide, by decide⟩ ?_
    refine g_iadd C D_Ca_twinOf_9 (fun a2 => ?_)
    refine g_goto (tgt := 17) C D_Ca_twinOf_10 (by decide) ?_
    refine g_sub [] rfl ?_
    exact wj_Ca_twinOf_17 C _ _
theorem c_Ca_twinOf {σ : gM} {v0 : Int} {r : gR} (ho : F_Ca_twinOf σ v0 = some r) (hok : gOk [.inl v0]) (hin : gIn gctC σ) : gCt gctC Y_Ca_twinOf prog_2_method_13_code 1 (some .int) 0 0 [.inl v0] σ r := g_entry (by decide) rfl (Nat.le_of_ble_eq_true rfl) ho hok hin (fun X C => w_Ca_twinOf C σ v0)
theorem D_Ca_causeOf_0 : decode prog_2_method_5_code 0 = .ok (.aload_n 0, 1) := by decide +kernel
theorem D_Ca_causeOf_1 : decode prog_2_method_5_code 1 = .ok (.getfield 21, 3) := by decide +kernel
theorem D_Ca_causeOf_4 : decode prog_2_method_5_code 4 = .ok (.iload_n 1, 1) := by decide +kernel
theorem D_Ca_causeOf_5 : decode prog_2_method_5_code 5 = .ok (.iaload, 1) := by decide +kernel
theorem D_Ca_causeOf_6 : decode prog_2_method_5_code 6 = .ok (.ifCond .ne 5, 3) := by decide +kernel
theorem D_Ca_causeOf_9 : decode prog_2_method_5_code 9 = .ok (.iconst 2, 1) := by decide +kernel
theorem D_Ca_causeOf_10 : decode prog_2_method_5_code 10 = .ok (.ireturn, 1) := by decide +kernel
theorem D_Ca_causeOf_11 : decode prog_2_method_5_code 11 = .ok (.aload_n 0, 1) := by decide +kernel
theorem D_Ca_causeOf_12 : decode prog_2_method_5_code 12 = .ok (.getfield 24, 3) := by decide +kernel
theorem D_Ca_causeOf_15 : decode prog_2_method_5_code 15 = .ok (.iload_n 1, 1) := by decide +kernel
theorem D_Ca_causeOf_16 : decode prog_2_method_5_code 16 = .ok (.baload, 1) := by decide +kernel
theorem D_Ca_causeOf_17 : decode prog_2_method_5_code 17 = .ok (.ifCond .eq 5, 3) := by decide +kernel
theorem D_Ca_causeOf_20 : decode prog_2_method_5_code 20 = .ok (.iconst 3, 1) := by decide +kernel
theorem D_Ca_causeOf_21 : decode prog_2_method_5_code 21 = .ok (.ireturn, 1) := by decide +kernel
theorem D_Ca_causeOf_22 : decode prog_2_method_5_code 22 = .ok (.aload_n 0, 1) := by decide +kernel
theorem D_Ca_causeOf_23 : decode prog_2_method_5_code 23 = .ok (.getfield 28, 3) := by decide +kernel
theorem D_Ca_causeOf_26 : decode prog_2_method_5_code 26 = .ok (.iload_n 1, 1) := by decide +kernel
theorem D_Ca_causeOf_27 : decode prog_2_method_5_code 27 = .ok (.baload, 1) := by decide +kernel
theorem D_Ca_causeOf_28 : decode prog_2_method_5_code 28 = .ok (.ifCond .eq 7, 3) := by decide +kernel
theorem D_Ca_causeOf_31 : decode prog_2_method_5_code 31 = .ok (.iconst 5, 1) := by decide +kernel
theorem D_Ca_causeOf_32 : decode prog_2_method_5_code 32 = .ok (.goto 4, 3) := by decide +kernel
theorem D_Ca_causeOf_35 : decode prog_2_method_5_code 35 = .ok (.iconst 4, 1) := by decide +kernel
theorem D_Ca_causeOf_36 : decode prog_2_method_5_code 36 = .ok (.ireturn, 1) := by decide +kernel
def j_Ca_causeOf_36 (σ : gM) (t0 : Int) : gO :=
  some (σ, t0)
set_option maxHeartbeats 4000000 in
theorem wj_Ca_causeOf_36 {X : gX} (C : gC gctC prog_2_method_5_code kR0 2 0 0 (some .int) X) (σ : gM) (t0 : Int) : GG gctC X 36 [] [.inl t0] σ (j_Ca_causeOf_36 σ t0) := by
  unfold j_Ca_causeOf_36
  exact g_iret C D_Ca_causeOf_36
def F_Ca_causeOf (σ : gM) (v1 : Int) : gO :=
  gi v1 128 <|
  if (σ 13 v1) = 0 then
  (some (σ, 2))
  else
  (gi v1 128 <|
  if (σ 14 v1) = 0 then
  (gi v1 128 <|
  if (σ 15 v1) = 0 then
  (j_Ca_causeOf_36 σ 4)
  else
  (j_Ca_causeOf_36 σ 5))
  else
  (some (σ, 3)))
set_option maxHeartbeats 4000000 in
theorem w_Ca_causeOf {X : gX} (C : gC gctC prog_2_method_5_code kR0 2 0 0 (some .int) X) (σ : gM) (v1 : Int) : GG gctC X 0 [(0, .inr (.inr 9)), (1, .inl v1)] [] σ (F_Ca_causeOf σ v1) := by
  unfold F_Ca_causeOf
  refine g_aload_n C D_Ca_causeOf_0 rfl 0 rfl ?_
  refine g_getr (ci := 0) C 3 rfl kI0 rfl (by decide) rfl rfl wf_0_21 D_Ca_causeOf_1 ?_
  refine g_iload_n C D_Ca_causeOf_4 rfl 1 rfl ?_
  refine g_iald C rfl rfl rfl D_Ca_causeOf_5 ?_
  refine g_if_ne (tgt := 11) C D_Ca_causeOf_6 (by decide) ?_ ?_
  · refine g_aload_n C D_Ca_causeOf_11 rfl 0 rfl ?_
    refine g_getr (ci := 0) C 4 rfl kI0 rfl (by decide) rfl rfl wf_0_24 D_Ca_causeOf_12 ?_
    refine g_iload_n C D_Ca_causeOf_15 rfl 1 rfl ?_
    refine g_zald C rfl rfl rfl D_Ca_causeOf_16 ?_
    refine g_if_eq (tgt := 22) C D_Ca_causeOf_17 (by decide) ?_ ?_
    · refine g_aload_n C D_Ca_causeOf_22 rfl 0 rfl ?_
      refine g_getr (ci := 0) C 5 rfl kI0 rfl (by decide) rfl rfl wf_0_28 D_Ca_causeOf_23 ?_
      refine g_iload_n C D_Ca_causeOf_26 rfl 1 rfl ?_
      refine g_zald C rfl rfl rfl D_Ca_causeOf_27 ?_
      refine g_if_eq (tgt := 35) C D_Ca_causeOf_28 (by decide) ?_ ?_
      · refine g_iconst C D_Ca_causeOf_35 ⟨by decide, by decide⟩ ?_
        refine g_sub [] rfl ?_
        exact wj_Ca_causeOf_36 C _ _
      · refine g_iconst C D_Ca_causeOf_31 ⟨by decide, by decide⟩ ?_
        refine g_goto (tgt := 36) C D_Ca_causeOf_32 (by decide) ?_
        refine g_sub [] rfl ?_
        exact wj_Ca_causeOf_36 C _ _
    · refine g_iconst C D_Ca_causeOf_20 ⟨by decide, by decide⟩ ?_
      exact g_iret C D_Ca_causeOf_21
  · refine g_iconst C D_Ca_causeOf_9 ⟨by decide, by decide⟩ ?_
    exact g_iret C D_Ca_causeOf_10
theorem c_Ca_causeOf {σ : gM} {v1 : Int} {r : gR} (ho : F_Ca_causeOf σ v1 = some r) (hok : gOk [.inr (.inr 9), .inl v1]) (hin : gIn gctC σ) : gCt gctC Y_Ca_causeOf prog_2_method_5_code 2 (some .int) 0 0 [.inr (.inr 9), .inl v1] σ r := g_entry (by decide) rfl (Nat.le_of_ble_eq_true rfl) ho hok hin (fun X C => w_Ca_causeOf C σ v1)
theorem D_Ca_goesAhead_0 : decode prog_2_method_7_code 0 = .ok (.aload_n 0, 1) := by decide +kernel
theorem D_Ca_goesAhead_1 : decode prog_2_method_7_code 1 = .ok (.getfield 49, 3) := by decide +kernel
theorem D_Ca_goesAhead_4 : decode prog_2_method_7_code 4 = .ok (.iconst 0, 1) := by decide +kernel
theorem D_Ca_goesAhead_5 : decode prog_2_method_7_code 5 = .ok (.iaload, 1) := by decide +kernel
theorem D_Ca_goesAhead_6 : decode prog_2_method_7_code 6 = .ok (.ifCond .ne 24, 3) := by decide +kernel
theorem D_Ca_goesAhead_9 : decode prog_2_method_7_code 9 = .ok (.aload_n 0, 1) := by decide +kernel
theorem D_Ca_goesAhead_10 : decode prog_2_method_7_code 10 = .ok (.getfield 21, 3) := by decide +kernel
theorem D_Ca_goesAhead_13 : decode prog_2_method_7_code 13 = .ok (.iload_n 1, 1) := by decide +kernel
theorem D_Ca_goesAhead_14 : decode prog_2_method_7_code 14 = .ok (.iaload, 1) := by decide +kernel
theorem D_Ca_goesAhead_15 : decode prog_2_method_7_code 15 = .ok (.aload_n 0, 1) := by decide +kernel
theorem D_Ca_goesAhead_16 : decode prog_2_method_7_code 16 = .ok (.getfield 21, 3) := by decide +kernel
theorem D_Ca_goesAhead_19 : decode prog_2_method_7_code 19 = .ok (.iload_n 2, 1) := by decide +kernel
theorem D_Ca_goesAhead_20 : decode prog_2_method_7_code 20 = .ok (.iaload, 1) := by decide +kernel
theorem D_Ca_goesAhead_21 : decode prog_2_method_7_code 21 = .ok (.if_icmp .ge 7, 3) := by decide +kernel
theorem D_Ca_goesAhead_24 : decode prog_2_method_7_code 24 = .ok (.iconst 1, 1) := by decide +kernel
theorem D_Ca_goesAhead_25 : decode prog_2_method_7_code 25 = .ok (.goto 4, 3) := by decide +kernel
theorem D_Ca_goesAhead_28 : decode prog_2_method_7_code 28 = .ok (.iconst 0, 1) := by decide +kernel
theorem D_Ca_goesAhead_29 : decode prog_2_method_7_code 29 = .ok (.ireturn, 1) := by decide +kernel
theorem D_Ca_goesAhead_30 : decode prog_2_method_7_code 30 = .ok (.aload_n 0, 1) := by decide +kernel
theorem D_Ca_goesAhead_31 : decode prog_2_method_7_code 31 = .ok (.getfield 49, 3) := by decide +kernel
theorem D_Ca_goesAhead_34 : decode prog_2_method_7_code 34 = .ok (.iconst 0, 1) := by decide +kernel
theorem D_Ca_goesAhead_35 : decode prog_2_method_7_code 35 = .ok (.iaload, 1) := by decide +kernel
theorem D_Ca_goesAhead_36 : decode prog_2_method_7_code 36 = .ok (.iconst 1, 1) := by decide +kernel
theorem D_Ca_goesAhead_37 : decode prog_2_method_7_code 37 = .ok (.if_icmp .ne 24, 3) := by decide +kernel
theorem D_Ca_goesAhead_40 : decode prog_2_method_7_code 40 = .ok (.aload_n 0, 1) := by decide +kernel
theorem D_Ca_goesAhead_41 : decode prog_2_method_7_code 41 = .ok (.getfield 18, 3) := by decide +kernel
theorem D_Ca_goesAhead_44 : decode prog_2_method_7_code 44 = .ok (.iload_n 1, 1) := by decide +kernel
theorem D_Ca_goesAhead_45 : decode prog_2_method_7_code 45 = .ok (.iaload, 1) := by decide +kernel
theorem D_Ca_goesAhead_46 : decode prog_2_method_7_code 46 = .ok (.aload_n 0, 1) := by decide +kernel
theorem D_Ca_goesAhead_47 : decode prog_2_method_7_code 47 = .ok (.getfield 18, 3) := by decide +kernel
theorem D_Ca_goesAhead_50 : decode prog_2_method_7_code 50 = .ok (.iload_n 2, 1) := by decide +kernel
theorem D_Ca_goesAhead_51 : decode prog_2_method_7_code 51 = .ok (.iaload, 1) := by decide +kernel
theorem D_Ca_goesAhead_52 : decode prog_2_method_7_code 52 = .ok (.if_icmp .ge 7, 3) := by decide +kernel
theorem D_Ca_goesAhead_55 : decode prog_2_method_7_code 55 = .ok (.iconst 1, 1) := by decide +kernel
theorem D_Ca_goesAhead_56 : decode prog_2_method_7_code 56 = .ok (.goto 4, 3) := by decide +kernel
theorem D_Ca_goesAhead_59 : decode prog_2_method_7_code 59 = .ok (.iconst 0, 1) := by decide +kernel
theorem D_Ca_goesAhead_60 : decode prog_2_method_7_code 60 = .ok (.ireturn, 1) := by decide +kernel
theorem D_Ca_goesAhead_61 : decode prog_2_method_7_code 61 = .ok (.iload_n 1, 1) := by decide +kernel
theorem D_Ca_goesAhead_62 : decode prog_2_method_7_code 62 = .ok (.iload_n 2, 1) := by decide +kernel
theorem D_Ca_goesAhead_63 : decode prog_2_method_7_code 63 = .ok (.if_icmp .ge 7, 3) := by decide +kernel
theorem D_Ca_goesAhead_66 : decode prog_2_method_7_code 66 = .ok (.iconst 1, 1) := by decide +kernel
theorem D_Ca_goesAhead_67 : decode prog_2_method_7_code 67 = .ok (.goto 4, 3) := by decide +kernel
theorem D_Ca_goesAhead_70 : decode prog_2_method_7_code 70 = .ok (.iconst 0, 1) := by decide +kernel
theorem D_Ca_goesAhead_71 : decode prog_2_method_7_code 71 = .ok (.ireturn, 1) := by decide +kernel
def j_Ca_goesAhead_71 (σ : gM) (t0 : Int) : gO :=
  gb t0 (some (σ, t0))
set_option maxHeartbeats 4000000 in
theorem wj_Ca_goesAhead_71 {X : gX} (C : gC gctC prog_2_method_7_code kR0 3 0 0 (some .boolean) X) (σ : gM) (t0 : Int) : GG gctC X 71 [] [.inl t0] σ (j_Ca_goesAhead_71 σ t0) := by
  unfold j_Ca_goesAhead_71
  exact g_zret C D_Ca_goesAhead_71
def j_Ca_goesAhead_60 (σ : gM) (t0 : Int) : gO :=
  gb t0 (some (σ, t0))
set_option maxHeartbeats 4000000 in
theorem wj_Ca_goesAhead_60 {X : gX} (C : gC gctC prog_2_method_7_code kR0 3 0 0 (some .boolean) X) (σ : gM) (t0 : Int) : GG gctC X 60 [] [.inl t0] σ (j_Ca_goesAhead_60 σ t0) := by
  unfold j_Ca_goesAhead_60
  exact g_zret C D_Ca_goesAhead_60
def j_Ca_goesAhead_29 (σ : gM) (t0 : Int) : gO :=
  gb t0 (some (σ, t0))
set_option maxHeartbeats 4000000 in
theorem wj_Ca_goesAhead_29 {X : gX} (C : gC gctC prog_2_method_7_code kR0 3 0 0 (some .boolean) X) (σ : gM) (t0 : Int) : GG gctC X 29 [] [.inl t0] σ (j_Ca_goesAhead_29 σ t0) := by
  unfold j_Ca_goesAhead_29
  exact g_zret C D_Ca_goesAhead_29
def F_Ca_goesAhead (σ : gM) (v1 v2 : Int) : gO :=
  gi 0 4 <|
  if (σ 1 0) = 0 then
  (gi v1 128 <|
  gi v2 128 <|
  if (σ 13 v1) < (σ 13 v2) then
  (j_Ca_goesAhead_29 σ 1)
  else
  (j_Ca_goesAhead_29 σ 0))
  else
  (gi 0 4 <|
  if (σ 1 0) = 1 then
  (gi v1 128 <|
  gi v2 128 <|
  if (σ 12 v1) < (σ 12 v2) then
  (j_Ca_goesAhead_60 σ 1)
  else
  (j_Ca_goesAhead_60 σ 0))
  else
  (if v1 < v2 then
  (j_Ca_goesAhead_71 σ 1)
  else
  (j_Ca_goesAhead_71 σ 0)))
set_option maxHeartbeats 4000000 in
theorem w_Ca_goesAhead {X : gX} (C : gC gctC prog_2_method_7_code kR0 3 0 0 (some .boolean) X) (σ : gM) (v1 v2 : Int) : GG gctC X 0 [(0, .inr (.inr 9)), (1, .inl v1), (2, .inl v2)] [] σ (F_Ca_goesAhead σ v1 v2) := by
  unfold F_Ca_goesAhead
  refine g_aload_n C D_Ca_goesAhead_0 rfl 0 rfl ?_
  refine g_getr (ci := 0) C 12 rfl kI0 rfl (by decide) rfl rfl wf_0_49 D_Ca_goesAhead_1 ?_
  refine g_iconst C D_Ca_goesAhead_4 ⟨by decide, by decide⟩ ?_
  refine g_iald C rfl rfl rfl D_Ca_goesAhead_5 ?_
  refine g_if_ne (tgt := 30) C D_Ca_goesAhead_6 (by decide) ?_ ?_
  · refine g_aload_n C D_Ca_goesAhead_30 rfl 0 rfl ?_
    refine g_getr (ci := 0) C 12 rfl kI0 rfl (by decide) rfl rfl wf_0_49 D_Ca_goesAhead_31 ?_
    refine g_iconst C D_Ca_goesAhead_34 ⟨by decide, by decide⟩ ?_
    refine g_iald C rfl rfl rfl D_Ca_goesAhead_35 ?_
    refine g_iconst C D_Ca_goesAhead_36 ⟨by decide, by decide⟩ ?_
    refine g_icmp_ne (tgt := 61) C D_Ca_goesAhead_37 (by decide) ?_ ?_
    · refine g_iload_n C D_Ca_goesAhead_61 rfl 1 rfl ?_
      refine g_iload_n C D_Ca_goesAhead_62 rfl 2 rfl ?_
      refine g_icmp_ge (tgt := 70) C D_Ca_goesAhead_63 (by decide) ?_ ?_
      · refine g_iconst C D_Ca_goesAhead_70 ⟨by decide, by decide⟩ ?_
        refine g_sub [] rfl ?_
        exact wj_Ca_goesAhead_71 C _ _
      · refine g_iconst C D_Ca_goesAhead_66 ⟨by decide, by decide⟩ ?_
        refine g_goto (tgt := 71) C D_Ca_goesAhead_67 (by decide) ?_
        refine g_sub [] rfl ?_
        exact wj_Ca_goesAhead_71 C _ _
    · refine g_aload_n C D_Ca_goesAhead_40 rfl 0 rfl ?_
      refine g_getr (ci := 0) C 2 rfl kI0 rfl (by decide) rfl rfl wf_0_18 D_Ca_goesAhead_41 ?_
      refine g_iload_n C D_Ca_goesAhead_44 rfl 1 rfl ?_
      refine g_iald C rfl rfl rfl D_Ca_goesAhead_45 ?_
      refine g_aload_n C D_Ca_goesAhead_46 rfl 0 rfl ?_
      refine g_getr (ci := 0) C 2 rfl kI0 rfl (by decide) rfl rfl wf_0_18 D_Ca_goesAhead_47 ?_
      refine g_iload_n C D_Ca_goesAhead_50 rfl 2 rfl ?_
      refine g_iald C rfl rfl rfl D_Ca_goesAhead_51 ?_
      refine g_icmp_ge (tgt := 59) C D_Ca_goesAhead_52 (by decide) ?_ ?_
      · refine g_iconst C D_Ca_goesAhead_59 ⟨by decide, by decide⟩ ?_
        refine g_sub [] rfl ?_
        exact wj_Ca_goesAhead_60 C _ _
      · refine g_iconst C D_Ca_goesAhead_55 ⟨by decide, by decide⟩ ?_
        refine g_goto (tgt := 60) C D_Ca_goesAhead_56 (by decide) ?_
        refine g_sub [] rfl ?_
        exact wj_Ca_goesAhead_60 C _ _
  · refine g_aload_n C D_Ca_goesAhead_9 rfl 0 rfl ?_
    refine g_getr (ci := 0) C 3 rfl kI0 rfl (by decide) rfl rfl wf_0_21 D_Ca_goesAhead_10 ?_
    refine g_iload_n C D_Ca_goesAhead_13 rfl 1 rfl ?_
    refine g_iald C rfl rfl rfl D_Ca_goesAhead_14 ?_
    refine g_aload_n C D_Ca_goesAhead_15 rfl 0 rfl ?_
    refine g_getr (ci := 0) C 3 rfl kI0 rfl (by decide) rfl rfl wf_0_21 D_Ca_goesAhead_16 ?_
    refine g_iload_n C D_Ca_goesAhead_19 rfl 2 rfl ?_
    refine g_iald C rfl rfl rfl D_Ca_goesAhead_20 ?_
    refine g_icmp_ge (tgt := 28) C D_Ca_goesAhead_21 (by decide) ?_ ?_
    · refine g_iconst C D_Ca_goesAhead_28 ⟨by decide, by decide⟩ ?_
      refine g_sub [] rfl ?_
      exact wj_Ca_goesAhead_29 C _ _
    · refine g_iconst C D_Ca_goesAhead_24 ⟨by decide, by decide⟩ ?_
      refine g_goto (tgt := 29) C D_Ca_goesAhead_25 (by decide) ?_
      refine g_sub [] rfl ?_
      exact wj_Ca_goesAhead_29 C _ _
theorem c_Ca_goesAhead {σ : gM} {v1 v2 : Int} {r : gR} (ho : F_Ca_goesAhead σ v1 v2 = some r) (hok : gOk [.inr (.inr 9), .inl v1, .inl v2]) (hin : gIn gctC σ) : gCt gctC Y_Ca_goesAhead prog_2_method_7_code 3 (some .boolean) 0 0 [.inr (.inr 9), .inl v1, .inl v2] σ r := g_entry (by decide) rfl (Nat.le_of_ble_eq_true rfl) ho hok hin (fun X C => w_Ca_goesAhead C σ v1 v2)
theorem D_Ca_leavingFor_0 : decode prog_2_method_6_code 0 = .ok (.aload_n 0, 1) := by decide +kernel
theorem D_Ca_leavingFor_1 : decode prog_2_method_6_code 1 = .ok (.getfield 34, 3) := by decide +kernel
theorem D_Ca_leavingFor_4 : decode prog_2_method_6_code 4 = .ok (.iconst 1, 1) := by decide +kernel
theorem D_Ca_leavingFor_5 : decode prog_2_method_6_code 5 = .ok (.isub, 1) := by decide +kernel
theorem D_Ca_leavingFor_6 : decode prog_2_method_6_code 6 = .ok (.istore_n 2, 1) := by decide +kernel
theorem D_Ca_leavingFor_7 : decode prog_2_method_6_code 7 = .ok (.iload_n 1, 1) := by decide +kernel
theorem D_Ca_leavingFor_8 : decode prog_2_method_6_code 8 = .ok (.iload_n 1, 1) := by decide +kernel
theorem D_Ca_leavingFor_9 : decode prog_2_method_6_code 9 = .ok (.bipush 64, 2) := by decide +kernel
theorem D_Ca_leavingFor_11 : decode prog_2_method_6_code 11 = .ok (.irem, 1) := by decide +kernel
theorem D_Ca_leavingFor_12 : decode prog_2_method_6_code 12 = .ok (.isub, 1) := by decide +kernel
theorem D_Ca_leavingFor_13 : decode prog_2_method_6_code 13 = .ok (.istore_n 3, 1) := by decide +kernel
theorem D_Ca_leavingFor_14 : decode prog_2_method_6_code 14 = .ok (.iconst 0, 1) := by decide +kernel
theorem D_Ca_leavingFor_15 : decode prog_2_method_6_code 15 = .ok (.istore 4, 2) := by decide +kernel
theorem D_Ca_leavingFor_17 : decode prog_2_method_6_code 17 = .ok (.bipush (-4), 2) := by decide +kernel
theorem D_Ca_leavingFor_19 : decode prog_2_method_6_code 19 = .ok (.istore 5, 2) := by decide +kernel
theorem D_Ca_leavingFor_21 : decode prog_2_method_6_code 21 = .ok (.iconst 0, 1) := by decide +kernel
theorem D_Ca_leavingFor_22 : decode prog_2_method_6_code 22 = .ok (.istore 6, 2) := by decide +kernel
theorem D_Ca_leavingFor_24 : decode prog_2_method_6_code 24 = .ok (.iload 6, 2) := by decide +kernel
theorem D_Ca_leavingFor_26 : decode prog_2_method_6_code 26 = .ok (.bipush 64, 2) := by decide +kernel
theorem D_Ca_leavingFor_28 : decode prog_2_method_6_code 28 = .ok (.if_icmp .ge 63, 3) := by decide +kernel
theorem D_Ca_leavingFor_31 : decode prog_2_method_6_code 31 = .ok (.iload_n 3, 1) := by decide +kernel
theorem D_Ca_leavingFor_32 : decode prog_2_method_6_code 32 = .ok (.iload 6, 2) := by decide +kernel
theorem D_Ca_leavingFor_34 : decode prog_2_method_6_code 34 = .ok (.iadd, 1) := by decide +kernel
theorem D_Ca_leavingFor_35 : decode prog_2_method_6_code 35 = .ok (.istore 7, 2) := by decide +kernel
theorem D_Ca_leavingFor_37 : decode prog_2_method_6_code 37 = .ok (.iload 7, 2) := by decide +kernel
theorem D_Ca_leavingFor_39 : decode prog_2_method_6_code 39 = .ok (.iload_n 2, 1) := by decide +kernel
theorem D_Ca_leavingFor_40 : decode prog_2_method_6_code 40 = .ok (.iand, 1) := by decide +kernel
theorem D_Ca_leavingFor_41 : decode prog_2_method_6_code 41 = .ok (.iload_n 1, 1) := by decide +kernel
theorem D_Ca_leavingFor_42 : decode prog_2_method_6_code 42 = .ok (.iload_n 2, 1) := by decide +kernel
theorem D_Ca_leavingFor_43 : decode prog_2_method_6_code 43 = .ok (.iand, 1) := by decide +kernel
theorem D_Ca_leavingFor_44 : decode prog_2_method_6_code 44 = .ok (.if_icmp .ne 41, 3) := by decide +kernel
theorem D_Ca_leavingFor_47 : decode prog_2_method_6_code 47 = .ok (.aload_n 0, 1) := by decide +kernel
theorem D_Ca_leavingFor_48 : decode prog_2_method_6_code 48 = .ok (.getfield 9, 3) := by decide +kernel
theorem D_Ca_leavingFor_51 : decode prog_2_method_6_code 51 = .ok (.iload 7, 2) := by decide +kernel
theorem D_Ca_leavingFor_53 : decode prog_2_method_6_code 53 = .ok (.iaload, 1) := by decide +kernel
theorem D_Ca_leavingFor_54 : decode prog_2_method_6_code 54 = .ok (.ifCond .ne 6, 3) := by decide +kernel
theorem D_Ca_leavingFor_57 : decode prog_2_method_6_code 57 = .ok (.goto 28, 3) := by decide +kernel
theorem D_Ca_leavingFor_60 : decode prog_2_method_6_code 60 = .ok (.iinc 4 1, 3) := by decide +kernel
theorem D_Ca_leavingFor_63 : decode prog_2_method_6_code 63 = .ok (.iload 5, 2) := by decide +kernel
theorem D_Ca_leavingFor_65 : decode prog_2_method_6_code 65 = .ok (.bipush (-4), 2) := by decide +kernel
theorem D_Ca_leavingFor_67 : decode prog_2_method_6_code 67 = .ok (.if_icmp .eq 14, 3) := by decide +kernel
theorem D_Ca_leavingFor_70 : decode prog_2_method_6_code 70 = .ok (.aload_n 0, 1) := by decide +kernel
theorem D_Ca_leavingFor_71 : decode prog_2_method_6_code 71 = .ok (.iload 7, 2) := by decide +kernel
theorem D_Ca_leavingFor_73 : decode prog_2_method_6_code 73 = .ok (.iload 5, 2) := by decide +kernel
theorem D_Ca_leavingFor_75 : decode prog_2_method_6_code 75 = .ok (.invokevirtual 102, 3) := by decide +kernel
theorem D_Ca_leavingFor_78 : decode prog_2_method_6_code 78 = .ok (.ifCond .eq 7, 3) := by decide +kernel
theorem D_Ca_leavingFor_81 : decode prog_2_method_6_code 81 = .ok (.iload 7, 2) := by decide +kernel
theorem D_Ca_leavingFor_83 : decode prog_2_method_6_code 83 = .ok (.istore 5, 2) := by decide +kernel
theorem D_Ca_leavingFor_85 : decode prog_2_method_6_code 85 = .ok (.iinc 6 1, 3) := by decide +kernel
theorem D_Ca_leavingFor_88 : decode prog_2_method_6_code 88 = .ok (.goto (-64), 3) := by decide +kernel
theorem D_Ca_leavingFor_91 : decode prog_2_method_6_code 91 = .ok (.iload 4, 2) := by decide +kernel
theorem D_Ca_leavingFor_93 : decode prog_2_method_6_code 93 = .ok (.aload_n 0, 1) := by decide +kernel
theorem D_Ca_leavingFor_94 : decode prog_2_method_6_code 94 = .ok (.getfield 38, 3) := by decide +kernel
theorem D_Ca_leavingFor_97 : decode prog_2_method_6_code 97 = .ok (.if_icmp .ge 8, 3) := by decide +kernel
theorem D_Ca_leavingFor_100 : decode prog_2_method_6_code 100 = .ok (.bipush (-4), 2) := by decide +kernel
theorem D_Ca_leavingFor_102 : decode prog_2_method_6_code 102 = .ok (.goto 5, 3) := by decide +kernel
theorem D_Ca_leavingFor_105 : decode prog_2_method_6_code 105 = .ok (.iload 5, 2) := by decide +kernel
theorem D_Ca_leavingFor_107 : decode prog_2_method_6_code 107 = .ok (.ireturn, 1) := by decide +kernel
def j_Ca_leavingFor_85 (k1 : gM → Int → Int → gO) (rec : gM → Int → Int → Int → gO) (σ : gM) (p1 p2 p3 v4 v5 v6 : Int) : gO :=
  ga (v6 + 1) fun a1 =>
  rec σ v4 v5 a1
set_option maxHeartbeats 4000000 in
theorem wj_Ca_leavingFor_85 {X : gX} (C : gC gctC prog_2_method_6_code kR0 8 1 22 (some .int) X) {p1 p2 p3 : Int} {k1 : gM → Int → Int → gO} (hk1 : ∀ (σ : gM) (a0 a1 : Int), GG gctC X 91 [(0, .inr (.inr 9)), (4, .inl a0), (5, .inl a1)] [] σ (k1 σ a0 a1)) {rec : gM → Int → Int → Int → gO} (hrec : ∀ (σ : gM) (a0 a1 a2 : Int), GG gctC X 24 [(0, .inr (.inr 9)), (1, .inl p1), (2, .inl p2), (3, .inl p3), (4, .inl a0), (5, .inl a1), (6, .inl a2)] [] σ (rec σ a0 a1 a2)) (σ : gM) (v4 v5 v6 : Int) : GG gctC X 85 [(0, .inr (.inr 9)), (1, .inl p1), (2, .inl p2), (3, .inl p3), (4, .inl v4), (5, .inl v5), (6, .inl v6)] [] σ (j_Ca_leavingFor_85 k1 rec σ p1 p2 p3 v4 v5 v6) := by
  unfold j_Ca_leavingFor_85
  refine g_iinc (t := 6) (L' := fun z => [(6, .inl z), (0, .inr (.inr 9)), (1, .inl p1), (2, .inl p2), (3, .inl p3), (4, .inl v4), (5, .inl v5)]) C D_Ca_leavingFor_85 rfl (by decide) (fun _ => rfl) (fun a1 => ?_)
  refine g_goto (tgt := 24) C D_Ca_leavingFor_88 (by decide) ?_
  refine g_sub [1, 2, 3, 4, 5, 6, 0] rfl ?_
  exact hrec _ _ _ _
def j_Ca_leavingFor_81 (k1 : gM → Int → Int → gO) (rec : gM → Int → Int → Int → gO) (σ : gM) (p1 p2 p3 v4 v6 v7 : Int) : gO :=
  j_Ca_leavingFor_85 k1 rec σ p1 p2 p3 v4 v7 v6
set_option maxHeartbeats 4000000 in
theorem wj_Ca_leavingFor_81 {X : gX} (C : gC gctC prog_2_method_6_code kR0 8 1 22 (some .int) X) {p1 p2 p3 : Int} {k1 : gM → Int → Int → gO} (hk1 : ∀ (σ : gM) (a0 a1 : Int), GG gctC X 91 [(0, .inr (.inr 9)), (4, .inl a0), (5, .inl a1)] [] σ (k1 σ a0 a1)) {rec : gM → Int → Int → Int → gO} (hrec : ∀ (σ : gM) (a0 a1 a2 : Int), GG gctC X 24 [(0, .inr (.inr 9)), (1, .inl p1), (2, .inl p2), (3, .inl p3), (4, .inl a0), (5, .inl a1), (6, .inl a2)] [] σ (rec σ a0 a1 a2)) (σ : gM) (v4 v6 v7 : Int) : GG gctC X 81 [(0, .inr (.inr 9)), (1, .inl p1), (2, .inl p2), (3, .inl p3), (4, .inl v4), (6, .inl v6), (7, .inl v7)] [] σ (j_Ca_leavingFor_81 k1 rec σ p1 p2 p3 v4 v6 v7) := by
  unfold j_Ca_leavingFor_81
  refine g_iload C D_Ca_leavingFor_81 6 rfl ?_
  refine g_istore (L' := [(5, .inl v7), (0, .inr (.inr 9)), (1, .inl p1), (2, .inl p2), (3, .inl p3), (4, .inl v4), (6, .inl v6), (7, .inl v7)]) C D_Ca_leavingFor_83 (by decide) rfl ?_
  refine g_sub [1, 2, 3, 4, 5, 0, 6] rfl ?_
  exact wj_Ca_leavingFor_85 C hk1 hrec _ _ _ _
def l_Ca_leavingFor_24 (k1 : gM → Int → Int → gO) (p1 p2 p3 : Int) (rec : gM → Int → Int → Int → gO) (σ : gM) (v4 v5 v6 : Int) : gO :=
  if v6 < 64 then
  (ga (p3 + v6) fun a1 =>
  if (gAnd a1 p2) = (gAnd p1 p2) then
  (gi a1 128 <|
  if (σ 10 a1) = 0 then
  (j_Ca_leavingFor_85 k1 rec σ p1 p2 p3 v4 v5 v6)
  else
  (ga (v4 + 1) fun a2 =>
  if v5 = (-4) then
  (j_Ca_leavingFor_81 k1 rec σ p1 p2 p3 a2 v6 a1)
  else
  (gk (F_Ca_goesAhead σ a1 v5) fun s3 a4 =>
  if a4 = 0 then
  (j_Ca_leavingFor_85 k1 rec s3 p1 p2 p3 a2 v5 v6)
  else
  (j_Ca_leavingFor_81 k1 rec s3 p1 p2 p3 a2 v6 a1))))
  else
  (j_Ca_leavingFor_85 k1 rec σ p1 p2 p3 v4 v5 v6))
  else
  (k1 σ v4 v5)
set_option maxHeartbeats 4000000 in
theorem wl_Ca_leavingFor_24 {X : gX} (C : gC gctC prog_2_method_6_code kR0 8 1 22 (some .int) X) {p1 p2 p3 : Int} {k1 : gM → Int → Int → gO} (hk1 : ∀ (σ : gM) (a0 a1 : Int), GG gctC X 91 [(0, .inr (.inr 9)), (4, .inl a0), (5, .inl a1)] [] σ (k1 σ a0 a1)) : ∀ (n : Nat) (σ : gM) (a0 a1 a2 : Int), GG gctC X 24 [(0, .inr (.inr 9)), (1, .inl p1), (2, .inl p2), (3, .inl p3), (4, .inl a0), (5, .inl a1), (6, .inl a2)] [] σ (gl3 (l_Ca_leavingFor_24 k1 p1 p2 p3) n σ a0 a1 a2) := by
  refine gl3_run (P := fun σ a0 a1 a2 o => GG gctC X 24 [(0, .inr (.inr 9)), (1, .inl p1), (2, .inl p2), (3, .inl p3), (4, .inl a0), (5, .inl a1), (6, .inl a2)] [] σ o) (fun _ _ _ _ => g_none) (fun rec hrec σ v4 v5 v6 => ?_)
  unfold l_Ca_leavingFor_24
  refine g_iload C D_Ca_leavingFor_24 6 rfl ?_
  refine g_bipush C D_Ca_leavingFor_26 (by decide) ⟨by decide, by decide⟩ ?_
  refine g_icmp_ge (tgt := 91) C D_Ca_leavingFor_28 (by decide) ?_ ?_
  · refine g_sub [0, 4, 5] rfl ?_
    exact hk1 _ _ _
  · refine g_iload_n C D_Ca_leavingFor_31 rfl 3 rfl ?_
    refine g_iload C D_Ca_leavingFor_32 6 rfl ?_
    refine g_iadd C D_Ca_leavingFor_34 (fun a1 => ?_)
    refine g_istore (L' := [(7, .inl a1), (0, .inr (.inr 9)), (1, .inl p1), (2, .inl p2), (3, .inl p3), (4, .inl v4), (5, .inl v5), (6, .inl v6)]) C D_Ca_leavingFor_35 (by decide) rfl ?_
    refine g_iload C D_Ca_leavingFor_37 0 rfl ?_
    refine g_iload_n C D_Ca_leavingFor_39 rfl 3 rfl ?_
    refine g_iand C D_Ca_leavingFor_40 ?_
    refine g_iload_n C D_Ca_leavingFor_41 rfl 2 rfl ?_
    refine g_iload_n C D_Ca_leavingFor_42 rfl 3 rfl ?_
    refine g_iand C D_Ca_leavingFor_43 ?_
    refine g_icmp_ne (tgt := 85) C D_Ca_leavingFor_44 (by decide) ?_ ?_
    · refine g_sub [1, 2, 3, 4, 5, 6, 7] rfl ?_
      exact wj_Ca_leavingFor_85 C hk1 hrec _ _ _ _
    · refine g_aload_n C D_Ca_leavingFor_47 rfl 1 rfl ?_
      refine g_getr (ci := 0) C 0 rfl kI0 rfl (by decide) rfl rfl wf_0_9 D_Ca_leavingFor_48 ?_
      refine g_iload C D_Ca_leavingFor_51 0 rfl ?_
      refine g_iald C rfl rfl rfl D_Ca_leavingFor_53 ?_
      refine g_if_ne (tgt := 60) C D_Ca_leavingFor_54 (by decide) ?_ ?_
      · refine g_iinc (t := 5) (L' := fun z => [(4, .inl z), (7, .inl a1), (0, .inr (.inr 9)), (1, .inl p1), (2, .inl p2), (3, .inl p3), (5, .inl v5), (6, .inl v6)]) C D_Ca_leavingFor_60 rfl (by decide) (fun _ => rfl) (fun a2 => ?_)
        refine g_iload C D_Ca_leavingFor_63 6 rfl ?_
        refine g_bipush C D_Ca_leavingFor_65 (by decide) ⟨by decide, by decide⟩ ?_
        refine g_icmp_eq (tgt := 81) C D_Ca_leavingFor_67 (by decide) ?_ ?_
        · refine g_sub [2, 3, 4, 5, 0, 7, 1] rfl ?_
          exact wj_Ca_leavingFor_81 C hk1 hrec _ _ _ _
        · refine g_aload_n C D_Ca_leavingFor_70 rfl 2 rfl ?_
          refine g_iload C D_Ca_leavingFor_71 1 rfl ?_
          refine g_iload C D_Ca_leavingFor_73 6 rfl ?_
          refine g_callVi (ci := 0) C [.inl a1, .inl v5] [] (Or.inr rfl) rfl (fun _ h1 h2 h3 => c_Ca_goesAhead h1 h2 h3) rfl rfl wc_0_102 (by decide) (Nat.le_of_ble_eq_true rfl) D_Ca_leavingFor_75 (fun s3 a4 => ?_)
          refine g_if_eq (tgt := 85) C D_Ca_leavingFor_78 (by decide) ?_ ?_
          · refine g_sub [2, 3, 4, 5, 0, 6, 7] rfl ?_
            exact wj_Ca_leavingFor_85 C hk1 hrec _ _ _ _
          · refine g_sub [2, 3, 4, 5, 0, 7, 1] rfl ?_
            exact wj_Ca_leavingFor_81 C hk1 hrec _ _ _ _
      · refine g_goto (tgt := 85) C D_Ca_leavingFor_57 (by decide) ?_
        refine g_sub [1, 2, 3, 4, 5, 6, 7] rfl ?_
        exact wj_Ca_leavingFor_85 C hk1 hrec _ _ _ _
def j_Ca_leavingFor_107 (σ : gM) (t0 : Int) : gO :=
  some (σ, t0)
set_option maxHeartbeats 4000000 in
theorem wj_Ca_leavingFor_107 {X : gX} (C : gC gctC prog_2_method_6_code kR0 8 1 22 (some .int) X) (σ : gM) (t0 : Int) : GG gctC X 107 [] [.inl t0] σ (j_Ca_leavingFor_107 σ t0) := by
  unfold j_Ca_leavingFor_107
  exact g_iret C D_Ca_leavingFor_107
def F_Ca_leavingFor (σ : gM) (v1 : Int) : gO :=
  ga ((σ 9 7) - 1) fun a1 =>
  gd v1 64 <|
  ga (v1 - (v1 % 64)) fun a2 =>
  gl3 (l_Ca_leavingFor_24 (fun s5 b3 b4 => if b3 < (s5 9 8) then
  (j_Ca_leavingFor_107 s5 (-4))
  else
  (j_Ca_leavingFor_107 s5 b4)) v1 a1 a2) 200 σ 0 (-4) 0
set_option maxHeartbeats 4000000 in
theorem w_Ca_leavingFor {X : gX} (C : gC gctC prog_2_method_6_code kR0 8 1 22 (some .int) X) (σ : gM) (v1 : Int) : GG gctC X 0 [(0, .inr (.inr 9)), (1, .inl v1)] [] σ (F_Ca_leavingFor σ v1) := by
  unfold F_Ca_leavingFor
  refine g_aload_n C D_Ca_leavingFor_0 rfl 0 rfl ?_
  refine g_get (ci := 0) C 7 (jz := 7) rfl rfl kI0 rfl (by decide) rfl rfl wf_0_34 rfl D_Ca_leavingFor_1 ?_
  refine g_iconst C D_Ca_leavingFor_4 ⟨by decide, by decide⟩ ?_
  refine g_isub C D_Ca_leavingFor_5 (fun a1 => ?_)
  refine g_istore_n (L' := [(2, .inl a1), (0, .inr (.inr 9)), (1, .inl v1)]) C D_Ca_leavingFor_6 rfl (by decide) rfl ?_
  refine g_iload_n C D_Ca_leavingFor_7 rfl 2 rfl ?_
  refine g_iload_n C D_Ca_leavingFor_8 rfl 2 rfl ?_
  refine g_bipush C D_Ca_leavingFor_9 (by decide) ⟨by decide, by decide⟩ ?_
  refine g_irem C D_Ca_leavingFor_11 ?_
  refine g_isub C D_Ca_leavingFor_12 (fun a2 => ?_)
  refine g_istore_n (L' := [(3, .inl a2), (2, .inl a1), (0, .inr (.inr 9)), (1, .inl v1)]) C D_Ca_leavingFor_13 rfl (by decide) rfl ?_
  refine g_iconst C D_Ca_leavingFor_14 ⟨by decide, by decide⟩ ?_
  refine g_istore (L' := [(4, .inl 0), (3, .inl a2), (2, .inl a1), (0, .inr (.inr 9)), (1, .inl v1)]) C D_Ca_leavingFor_15 (by decide) rfl ?_
  refine g_bipush C D_Ca_leavingFor_17 (by decide) ⟨by decide, by decide⟩ ?_
  refine g_istore (L' := [(5, .inl (-4)), (4, .inl 0), (3, .inl a2), (2, .inl a1), (0, .inr (.inr 9)), (1, .inl v1)]) C D_Ca_leavingFor_19 (by decide) rfl ?_
  refine g_iconst C D_Ca_leavingFor_21 ⟨by decide, by decide⟩ ?_
  refine g_istore (L' := [(6, .inl 0), (5, .inl (-4)), (4, .inl 0), (3, .inl a2), (2, .inl a1), (0, .inr (.inr 9)), (1, .inl v1)]) C D_Ca_leavingFor_22 (by decide) rfl ?_
  refine g_sub [5, 6, 4, 3, 2, 1, 0] rfl ?_
  exact wl_Ca_leavingFor_24 C (fun s5 b3 b4 => by
      refine g_iload C D_Ca_leavingFor_91 1 rfl ?_
      refine g_aload_n C D_Ca_leavingFor_93 rfl 0 rfl ?_
      refine g_get (ci := 0) C 8 (jz := 8) rfl rfl kI0 rfl (by decide) rfl rfl wf_0_38 rfl D_Ca_leavingFor_94 ?_
      refine g_icmp_ge (tgt := 105) C D_Ca_leavingFor_97 (by decide) ?_ ?_
      · refine g_iload C D_Ca_leavingFor_105 2 rfl ?_
        refine g_sub [] rfl ?_
        exact wj_Ca_leavingFor_107 C _ _
      · refine g_bipush C D_Ca_leavingFor_100 (by decide) ⟨by decide, by decide⟩ ?_
        refine g_goto (tgt := 107) C D_Ca_leavingFor_102 (by decide) ?_
        refine g_sub [] rfl ?_
        exact wj_Ca_leavingFor_107 C _ _) 200 _ _ _ _
theorem c_Ca_leavingFor {σ : gM} {v1 : Int} {r : gR} (ho : F_Ca_leavingFor σ v1 = some r) (hok : gOk [.inr (.inr 9), .inl v1]) (hin : gIn gctC σ) : gCt gctC Y_Ca_leavingFor prog_2_method_6_code 8 (some .int) 1 22 [.inr (.inr 9), .inl v1] σ r := g_entry (by decide) rfl (Nat.le_of_ble_eq_true rfl) ho hok hin (fun X C => w_Ca_leavingFor C σ v1)
theorem D_Ce_openFor_0 : decode prog_3_method_7_code 0 = .ok (.iload_n 1, 1) := by decide +kernel
theorem D_Ce_openFor_1 : decode prog_3_method_7_code 1 = .ok (.iconst 4, 1) := by decide +kernel
theorem D_Ce_openFor_2 : decode prog_3_method_7_code 2 = .ok (.irem, 1) := by decide +kernel
theorem D_Ce_openFor_3 : decode prog_3_method_7_code 3 = .ok (.istore_n 2, 1) := by decide +kernel
theorem D_Ce_openFor_4 : decode prog_3_method_7_code 4 = .ok (.iload_n 1, 1) := by decide +kernel
theorem D_Ce_openFor_5 : decode prog_3_method_7_code 5 = .ok (.iconst 4, 1) := by decide +kernel
theorem D_Ce_openFor_6 : decode prog_3_method_7_code 6 = .ok (.idiv, 1) := by decide +kernel
theorem D_Ce_openFor_7 : decode prog_3_method_7_code 7 = .ok (.istore_n 3, 1) := by decide +kernel
theorem D_Ce_openFor_8 : decode prog_3_method_7_code 8 = .ok (.aload_n 0, 1) := by decide +kernel
theorem D_Ce_openFor_9 : decode prog_3_method_7_code 9 = .ok (.getfield 18, 3) := by decide +kernel
theorem D_Ce_openFor_12 : decode prog_3_method_7_code 12 = .ok (.iload_n 2, 1) := by decide +kernel
theorem D_Ce_openFor_13 : decode prog_3_method_7_code 13 = .ok (.iaload, 1) := by decide +kernel
theorem D_Ce_openFor_14 : decode prog_3_method_7_code 14 = .ok (.iload_n 3, 1) := by decide +kernel
theorem D_Ce_openFor_15 : decode prog_3_method_7_code 15 = .ok (.if_icmp .ne 5, 3) := by decide +kernel
theorem D_Ce_openFor_18 : decode prog_3_method_7_code 18 = .ok (.iconst 0, 1) := by decide +kernel
theorem D_Ce_openFor_19 : decode prog_3_method_7_code 19 = .ok (.ireturn, 1) := by decide +kernel
theorem D_Ce_openFor_20 : decode prog_3_method_7_code 20 = .ok (.aload_n 0, 1) := by decide +kernel
theorem D_Ce_openFor_21 : decode prog_3_method_7_code 21 = .ok (.getfield 18, 3) := by decide +kernel
theorem D_Ce_openFor_24 : decode prog_3_method_7_code 24 = .ok (.iload_n 2, 1) := by decide +kernel
theorem D_Ce_openFor_25 : decode prog_3_method_7_code 25 = .ok (.iaload, 1) := by decide +kernel
theorem D_Ce_openFor_26 : decode prog_3_method_7_code 26 = .ok (.bipush (-4), 2) := by decide +kernel
theorem D_Ce_openFor_28 : decode prog_3_method_7_code 28 = .ok (.if_icmp .ne 7, 3) := by decide +kernel
theorem D_Ce_openFor_31 : decode prog_3_method_7_code 31 = .ok (.iconst 3, 1) := by decide +kernel
theorem D_Ce_openFor_32 : decode prog_3_method_7_code 32 = .ok (.goto 4, 3) := by decide +kernel
theorem D_Ce_openFor_35 : decode prog_3_method_7_code 35 = .ok (.iconst 5, 1) := by decide +kernel
theorem D_Ce_openFor_36 : decode prog_3_method_7_code 36 = .ok (.istore 4, 2) := by decide +kernel
theorem D_Ce_openFor_38 : decode prog_3_method_7_code 38 = .ok (.aload_n 0, 1) := by decide +kernel
theorem D_Ce_openFor_39 : decode prog_3_method_7_code 39 = .ok (.getfield 18, 3) := by decide +kernel
theorem D_Ce_openFor_42 : decode prog_3_method_7_code 42 = .ok (.iload_n 2, 1) := by decide +kernel
theorem D_Ce_openFor_43 : decode prog_3_method_7_code 43 = .ok (.iload_n 3, 1) := by decide +kernel
theorem D_Ce_openFor_44 : decode prog_3_method_7_code 44 = .ok (.iastore, 1) := by decide +kernel
theorem D_Ce_openFor_45 : decode prog_3_method_7_code 45 = .ok (.aload_n 0, 1) := by decide +kernel
theorem D_Ce_openFor_46 : decode prog_3_method_7_code 46 = .ok (.getfield 15, 3) := by decide +kernel
theorem D_Ce_openFor_49 : decode prog_3_method_7_code 49 = .ok (.iload_n 1, 1) := by decide +kernel
theorem D_Ce_openFor_50 : decode prog_3_method_7_code 50 = .ok (.iconst 0, 1) := by decide +kernel
theorem D_Ce_openFor_51 : decode prog_3_method_7_code 51 = .ok (.iastore, 1) := by decide +kernel
theorem D_Ce_openFor_52 : decode prog_3_method_7_code 52 = .ok (.iload_n 1, 1) := by decide +kernel
theorem D_Ce_openFor_53 : decode prog_3_method_7_code 53 = .ok (.iconst 4, 1) := by decide +kernel
theorem D_Ce_openFor_54 : decode prog_3_method_7_code 54 = .ok (.isub, 1) := by decide +kernel
theorem D_Ce_openFor_55 : decode prog_3_method_7_code 55 = .ok (.istore 5, 2) := by decide +kernel
theorem D_Ce_openFor_57 : decode prog_3_method_7_code 57 = .ok (.iload 5, 2) := by decide +kernel
theorem D_Ce_openFor_59 : decode prog_3_method_7_code 59 = .ok (.iload_n 1, 1) := by decide +kernel
theorem D_Ce_openFor_60 : decode prog_3_method_7_code 60 = .ok (.iconst 4, 1) := by decide +kernel
theorem D_Ce_openFor_61 : decode prog_3_method_7_code 61 = .ok (.iadd, 1) := by decide +kernel
theorem D_Ce_openFor_62 : decode prog_3_method_7_code 62 = .ok (.if_icmp .gt 82, 3) := by decide +kernel
theorem D_Ce_openFor_65 : decode prog_3_method_7_code 65 = .ok (.iload 5, 2) := by decide +kernel
theorem D_Ce_openFor_67 : decode prog_3_method_7_code 67 = .ok (.ifCond .lt 71, 3) := by decide +kernel
theorem D_Ce_openFor_70 : decode prog_3_method_7_code 70 = .ok (.iload 5, 2) := by decide +kernel
theorem D_Ce_openFor_72 : decode prog_3_method_7_code 72 = .ok (.bipush 64, 2) := by decide +kernel
theorem D_Ce_openFor_74 : decode prog_3_method_7_code 74 = .ok (.if_icmp .lt 6, 3) := by decide +kernel
theorem D_Ce_openFor_77 : decode prog_3_method_7_code 77 = .ok (.goto 61, 3) := by decide +kernel
theorem D_Ce_openFor_80 : decode prog_3_method_7_code 80 = .ok (.aload_n 0, 1) := by decide +kernel
theorem D_Ce_openFor_81 : decode prog_3_method_7_code 81 = .ok (.getfield 15, 3) := by decide +kernel
theorem D_Ce_openFor_84 : decode prog_3_method_7_code 84 = .ok (.iload 5, 2) := by decide +kernel
theorem D_Ce_openFor_86 : decode prog_3_method_7_code 86 = .ok (.dup2, 1) := by decide +kernel
theorem D_Ce_openFor_87 : decode prog_3_method_7_code 87 = .ok (.iaload, 1) := by decide +kernel
theorem D_Ce_openFor_88 : decode prog_3_method_7_code 88 = .ok (.iconst 1, 1) := by decide +kernel
theorem D_Ce_openFor_89 : decode prog_3_method_7_code 89 = .ok (.iadd, 1) := by decide +kernel
theorem D_Ce_openFor_90 : decode prog_3_method_7_code 90 = .ok (.iastore, 1) := by decide +kernel
theorem D_Ce_openFor_91 : decode prog_3_method_7_code 91 = .ok (.aload_n 0, 1) := by decide +kernel
theorem D_Ce_openFor_92 : decode prog_3_method_7_code 92 = .ok (.getfield 41, 3) := by decide +kernel
theorem D_Ce_openFor_95 : decode prog_3_method_7_code 95 = .ok (.ifCond .eq 43, 3) := by decide +kernel
theorem D_Ce_openFor_98 : decode prog_3_method_7_code 98 = .ok (.aload_n 0, 1) := by decide +kernel
theorem D_Ce_openFor_99 : decode prog_3_method_7_code 99 = .ok (.getfield 15, 3) := by decide +kernel
theorem D_Ce_openFor_102 : decode prog_3_method_7_code 102 = .ok (.iload 5, 2) := by decide +kernel
theorem D_Ce_openFor_104 : decode prog_3_method_7_code 104 = .ok (.iaload, 1) := by decide +kernel
theorem D_Ce_openFor_105 : decode prog_3_method_7_code 105 = .ok (.aload_n 0, 1) := by decide +kernel
theorem D_Ce_openFor_106 : decode prog_3_method_7_code 106 = .ok (.getfield 41, 3) := by decide +kernel
theorem D_Ce_openFor_109 : decode prog_3_method_7_code 109 = .ok (.if_icmp .ge 6, 3) := by decide +kernel
theorem D_Ce_openFor_112 : decode prog_3_method_7_code 112 = .ok (.goto 26, 3) := by decide +kernel
theorem D_Ce_openFor_115 : decode prog_3_method_7_code 115 = .ok (.aload_n 0, 1) := by decide +kernel
theorem D_Ce_openFor_116 : decode prog_3_method_7_code 116 = .ok (.getfield 9, 3) := by decide +kernel
theorem D_Ce_openFor_119 : decode prog_3_method_7_code 119 = .ok (.iload 5, 2) := by decide +kernel
theorem D_Ce_openFor_121 : decode prog_3_method_7_code 121 = .ok (.bipush 8, 2) := by decide +kernel
theorem D_Ce_openFor_123 : decode prog_3_method_7_code 123 = .ok (.imul, 1) := by decide +kernel
theorem D_Ce_openFor_124 : decode prog_3_method_7_code 124 = .ok (.dup2, 1) := by decide +kernel
theorem D_Ce_openFor_125 : decode prog_3_method_7_code 125 = .ok (.iaload, 1) := by decide +kernel
theorem D_Ce_openFor_126 : decode prog_3_method_7_code 126 = .ok (.bipush 8, 2) := by decide +kernel
theorem D_Ce_openFor_128 : decode prog_3_method_7_code 128 = .ok (.ixor, 1) := by decide +kernel
theorem D_Ce_openFor_129 : decode prog_3_method_7_code 129 = .ok (.iastore, 1) := by decide +kernel
theorem D_Ce_openFor_130 : decode prog_3_method_7_code 130 = .ok (.aload_n 0, 1) := by decide +kernel
theorem D_Ce_openFor_131 : decode prog_3_method_7_code 131 = .ok (.getfield 15, 3) := by decide +kernel
theorem D_Ce_openFor_134 : decode prog_3_method_7_code 134 = .ok (.iload 5, 2) := by decide +kernel
theorem D_Ce_openFor_136 : decode prog_3_method_7_code 136 = .ok (.iconst 0, 1) := by decide +kernel
theorem D_Ce_openFor_137 : decode prog_3_method_7_code 137 = .ok (.iastore, 1) := by decide +kernel
theorem D_Ce_openFor_138 : decode prog_3_method_7_code 138 = .ok (.iinc 5 8, 3) := by decide +kernel
theorem D_Ce_openFor_141 : decode prog_3_method_7_code 141 = .ok (.goto (-84), 3) := by decide +kernel
theorem D_Ce_openFor_144 : decode prog_3_method_7_code 144 = .ok (.iload 4, 2) := by decide +kernel
theorem D_Ce_openFor_146 : decode prog_3_method_7_code 146 = .ok (.ireturn, 1) := by decide +kernel
def j_Ce_openFor_138 (rec : gM → Int → gO) (σ : gM) (p1 p4 v5 : Int) : gO :=
  ga (v5 + 8) fun a1 =>
  rec σ a1
set_option maxHeartbeats 4000000 in
theorem wj_Ce_openFor_138 {X : gX} (C : gC gctC prog_3_method_7_code kR1 6 0 0 (some .int) X) {p1 p4 : Int} {rec : gM → Int → gO} (hrec : ∀ (σ : gM) (a0 : Int), GG gctC X 57 [(0, .inr (.inr 5)), (1, .inl p1), (4, .inl p4), (5, .inl a0)] [] σ (rec σ a0)) (σ : gM) (v5 : Int) : GG gctC X 138 [(0, .inr (.inr 5)), (1, .inl p1), (4, .inl p4), (5, .inl v5)] [] σ (j_Ce_openFor_138 rec σ p1 p4 v5) := by
  unfold j_Ce_openFor_138
  refine g_iinc (t := 3) (L' := fun z => [(5, .inl z), (0, .inr (.inr 5)), (1, .inl p1), (4, .inl p4)]) C D_Ce_openFor_138 rfl (by decide) (fun _ => rfl) (fun a1 => ?_)
  refine g_goto (tgt := 57) C D_Ce_openFor_141 (by decide) ?_
  refine g_sub [1, 2, 3, 0] rfl ?_
  exact hrec _ _
def l_Ce_openFor_57 (p1 p4 : Int) (rec : gM → Int → gO) (σ : gM) (v5 : Int) : gO :=
  ga (p1 + 4) fun a1 =>
  if a1 < v5 then
  (some (σ, p4))
  else
  (if v5 < 0 then
  (j_Ce_openFor_138 rec σ p1 p4 v5)
  else
  (if v5 < 64 then
  (gi v5 64 <|
  ga ((σ 7 v5) + 1) fun a2 =>
  gw σ 7 64 v5 a2 fun s3 =>
  if (s3 5 3) = 0 then
  (j_Ce_openFor_138 rec s3 p1 p4 v5)
  else
  (gi v5 64 <|
  if (s3 7 v5) < (s3 5 3) then
  (j_Ce_openFor_138 rec s3 p1 p4 v5)
  else
  (ga (v5 * 8) fun a4 =>
  gi a4 512 <|
  gw s3 6 512 a4 (gXor (s3 6 a4) 8) fun s5 =>
  gw s5 7 64 v5 0 fun s6 =>
  j_Ce_openFor_138 rec s6 p1 p4 v5)))
  else
  (j_Ce_openFor_138 rec σ p1 p4 v5)))
set_option maxHeartbeats 4000000 in
theorem wl_Ce_openFor_57 {X : gX} (C : gC gctC prog_3_method_7_code kR1 6 0 0 (some .int) X) {p1 p4 : Int} : ∀ (n : Nat) (σ : gM) (a0 : Int), GG gctC X 57 [(0, .inr (.inr 5)), (1, .inl p1), (4, .inl p4), (5, .inl a0)] [] σ (gl1 (l_Ce_openFor_57 p1 p4) n σ a0) := by
  refine gl1_run (P := fun σ a0 o => GG gctC X 57 [(0, .inr (.inr 5)), (1, .inl p1), (4, .inl p4), (5, .inl a0)] [] σ o) (fun _ _ => g_none) (fun rec hrec σ v5 => ?_)
  unfold l_Ce_openFor_57
  refine g_iload C D_Ce_openFor_57 3 rfl ?_
  refine g_iload_n C D_Ce_openFor_59 rfl 1 rfl ?_
  refine g_iconst C D_Ce_openFor_60 ⟨by decide, by decide⟩ ?_
  refine g_iadd C D_Ce_openFor_61 (fun a1 => ?_)
  refine g_icmp_gt (tgt := 144) C D_Ce_openFor_62 (by decide) ?_ ?_
  · refine g_iload C D_Ce_openFor_144 2 rfl ?_
    exact g_iret C D_Ce_openFor_146
  · refine g_iload C D_Ce_openFor_65 3 rfl ?_
    refine g_if_lt (tgt := 138) C D_Ce_openFor_67 (by decide) ?_ ?_
    · exact wj_Ce_openFor_138 C hrec _ _
    · refine g_iload C D_Ce_openFor_70 3 rfl ?_
      refine g_bipush C D_Ce_openFor_72 (by decide) ⟨by decide, by decide⟩ ?_
      refine g_icmp_lt (tgt := 80) C D_Ce_openFor_74 (by decide) ?_ ?_
      · refine g_aload_n C D_Ce_openFor_80 rfl 0 rfl ?_
        refine g_getr (ci := 1) C 1 rfl kI1 rfl (by decide) rfl rfl wf_1_15 D_Ce_openFor_81 ?_
        refine g_iload C D_Ce_openFor_84 3 rfl ?_
        refine g_dup2 C D_Ce_openFor_86 rfl rfl ?_
        refine g_iald C rfl rfl rfl D_Ce_openFor_87 ?_
        refine g_iconst C D_Ce_openFor_88 ⟨by decide, by decide⟩ ?_
        refine g_iadd C D_Ce_openFor_89 (fun a2 => ?_)
        refine g_iast C rfl rfl D_Ce_openFor_90 (fun s3 => ?_)
        refine g_aload_n C D_Ce_openFor_91 rfl 0 rfl ?_
        refine g_get (ci := 1) C 3 (jz := 3) rfl rfl kI1 rfl (by decide) rfl rfl wf_1_41 rfl D_Ce_openFor_92 ?_
        refine g_if_eq (tgt := 138) C D_Ce_openFor_95 (by decide) ?_ ?_
        · exact wj_Ce_openFor_138 C hrec _ _
        · refine g_aload_n C D_Ce_openFor_98 rfl 0 rfl ?_
          refine g_getr (ci := 1) C 1 rfl kI1 rfl (by decide) rfl rfl wf_1_15 D_Ce_openFor_99 ?_
          refine g_iload C D_Ce_openFor_102 3 rfl ?_
          refine g_iald C rfl rfl rfl D_Ce_openFor_104 ?_
          refine g_aload_n C D_Ce_openFor_105 rfl 0 rfl ?_
          refine g_get (ci := 1) C 3 (jz := 3) rfl rfl kI1 rfl (by decide) rfl rfl wf_1_41 rfl D_Ce_openFor_106 ?_
          refine g_icmp_ge (tgt := 115) C D_Ce_openFor_109 (by decide) ?_ ?_
          · refine g_aload_n C D_Ce_openFor_115 rfl 0 rfl ?_
            refine g_getr (ci := 1) C 0 rfl kI1 rfl (by decide) rfl rfl wf_1_9 D_Ce_openFor_116 ?_
            refine g_iload C D_Ce_openFor_119 3 rfl ?_
            refine g_bipush C D_Ce_openFor_121 (by decide) ⟨by decide, by decide⟩ ?_
            refine g_imul C D_Ce_openFor_123 (fun a4 => ?_)
            refine g_dup2 C D_Ce_openFor_124 rfl rfl ?_
            refine g_iald C rfl rfl rfl D_Ce_openFor_125 ?_
            refine g_bipush C D_Ce_openFor_126 (by decide) ⟨by decide, by decide⟩ ?_
            refine g_ixor C D_Ce_openFor_128 ?_
            refine g_iast C rfl rfl D_Ce_openFor_129 (fun s5 => ?_)
            refine g_aload_n C D_Ce_openFor_130 rfl 0 rfl ?_
            refine g_getr (ci := 1) C 1 rfl kI1 rfl (by decide) rfl rfl wf_1_15 D_Ce_openFor_131 ?_
            refine g_iload C D_Ce_openFor_134 3 rfl ?_
            refine g_iconst C D_Ce_openFor_136 ⟨by decide, by decide⟩ ?_
            refine g_iast C rfl rfl D_Ce_openFor_137 (fun s6 => ?_)
            exact wj_Ce_openFor_138 C hrec _ _
          · refine g_goto (tgt := 138) C D_Ce_openFor_112 (by decide) ?_
            exact wj_Ce_openFor_138 C hrec _ _
      · refine g_goto (tgt := 138) C D_Ce_openFor_77 (by decide) ?_
        exact wj_Ce_openFor_138 C hrec _ _
def j_Ce_openFor_36 (σ : gM) (v1 v2 v3 t0 : Int) : gO :=
  gw σ 8 4 v2 v3 fun s1 =>
  gw s1 7 64 v1 0 fun s2 =>
  ga (v1 - 4) fun a3 =>
  gl1 (l_Ce_openFor_57 v1 t0) 200 s2 a3
set_option maxHeartbeats 4000000 in
theorem wj_Ce_openFor_36 {X : gX} (C : gC gctC prog_3_method_7_code kR1 6 0 0 (some .int) X) (σ : gM) (v1 v2 v3 t0 : Int) : GG gctC X 36 [(0, .inr (.inr 5)), (1, .inl v1), (2, .inl v2), (3, .inl v3)] [.inl t0] σ (j_Ce_openFor_36 σ v1 v2 v3 t0) := by
  unfold j_Ce_openFor_36
  refine g_istore (L' := [(4, .inl t0), (0, .inr (.inr 5)), (1, .inl v1), (2, .inl v2), (3, .inl v3)]) C D_Ce_openFor_36 (by decide) rfl ?_
  refine g_aload_n C D_Ce_openFor_38 rfl 1 rfl ?_
  refine g_getr (ci := 1) C 2 rfl kI1 rfl (by decide) rfl rfl wf_1_18 D_Ce_openFor_39 ?_
  refine g_iload_n C D_Ce_openFor_42 rfl 3 rfl ?_
  refine g_iload_n C D_Ce_openFor_43 rfl 4 rfl ?_
  refine g_iast C rfl rfl D_Ce_openFor_44 (fun s1 => ?_)
  refine g_aload_n C D_Ce_openFor_45 rfl 1 rfl ?_
  refine g_getr (ci := 1) C 1 rfl kI1 rfl (by decide) rfl rfl wf_1_15 D_Ce_openFor_46 ?_
  refine g_iload_n C D_Ce_openFor_49 rfl 2 rfl ?_
  refine g_iconst C D_Ce_openFor_50 ⟨by decide, by decide⟩ ?_
  refine g_iast C rfl rfl D_Ce_openFor_51 (fun s2 => ?_)
  refine g_iload_n C D_Ce_openFor_52 rfl 2 rfl ?_
  refine g_iconst C D_Ce_openFor_53 ⟨by decide, by decide⟩ ?_
  refine g_isub C D_Ce_openFor_54 (fun a3 => ?_)
  refine g_istore (L' := [(5, .inl a3), (4, .inl t0), (0, .inr (.inr 5)), (1, .inl v1), (2, .inl v2), (3, .inl v3)]) C D_Ce_openFor_55 (by decide) rfl ?_
  refine g_sub [2, 3, 1, 0] rfl ?_
  exact wl_Ce_openFor_57 C 200 _ _
def F_Ce_openFor (σ : gM) (v1 : Int) : gO :=
  gd v1 4 <|
  gv (v1 % 4) fun a1 =>
  gd v1 4 <|
  gv (v1 / 4) fun a2 =>
  gi a1 4 <|
  if (σ 8 a1) = a2 then
  (some (σ, 0))
  else
  (gi a1 4 <|
  if (σ 8 a1) = (-4) then
  (j_Ce_openFor_36 σ v1 a1 a2 3)
  else
  (j_Ce_openFor_36 σ v1 a1 a2 5))
set_option maxHeartbeats 4000000 in
theorem w_Ce_openFor {X : gX} (C : gC gctC prog_3_method_7_code kR1 6 0 0 (some .int) X) (σ : gM) (v1 : Int) : GG gctC X 0 [(0, .inr (.inr 5)), (1, .inl v1)] [] σ (F_Ce_openFor σ v1) := by
  unfold F_Ce_openFor
  refine g_iload_n C D_Ce_openFor_0 rfl 1 rfl ?_
  refine g_iconst C D_Ce_openFor_1 ⟨by decide, by decide⟩ ?_
  refine g_irem C D_Ce_openFor_2 ?_
  refine g_let C (fun a1 => ?_)
  refine g_istore_n (L' := [(2, .inl a1), (0, .inr (.inr 5)), (1, .inl v1)]) C D_Ce_openFor_3 rfl (by decide) rfl ?_
  refine g_iload_n C D_Ce_openFor_4 rfl 2 rfl ?_
  refine g_iconst C D_Ce_openFor_5 ⟨by decide, by decide⟩ ?_
  refine g_idiv C D_Ce_openFor_6 ?_
  refine g_let C (fun a2 => ?_)
  refine g_istore_n (L' := [(3, .inl a2), (2, .inl a1), (0, .inr (.inr 5)), (1, .inl v1)]) C D_Ce_openFor_7 rfl (by decide) rfl ?_
  refine g_aload_n C D_Ce_openFor_8 rfl 2 rfl ?_
  refine g_getr (ci := 1) C 2 rfl kI1 rfl (by decide) rfl rfl wf_1_18 D_Ce_openFor_9 ?_
  refine g_iload_n C D_Ce_openFor_12 rfl 1 rfl ?_
  refine g_iald C rfl rfl rfl D_Ce_openFor_13 ?_
  refine g_iload_n C D_Ce_openFor_14 rfl 0 rfl ?_
  refine g_icmp_ne (tgt := 20) C D_Ce_openFor_15 (by decide) ?_ ?_
  · refine g_aload_n C D_Ce_openFor_20 rfl 2 rfl ?_
    refine g_getr (ci := 1) C 2 rfl kI1 rfl (by decide) rfl rfl wf_1_18 D_Ce_openFor_21 ?_
    refine g_iload_n C D_Ce_openFor_24 rfl 1 rfl ?_
    refine g_iald C rfl rfl rfl D_Ce_openFor_25 ?_
    refine g_bipush C D_Ce_openFor_26 (by decide) ⟨by decide, by decide⟩ ?_
    refine g_icmp_ne (tgt := 35) C D_Ce_openFor_28 (by decide) ?_ ?_
    · refine g_iconst C D_Ce_openFor_35 ⟨by decide, by decide⟩ ?_
      refine g_sub [2, 3, 1, 0] rfl ?_
      exact wj_Ce_openFor_36 C _ _ _ _ _
    · refine g_iconst C D_Ce_openFor_31 ⟨by decide, by decide⟩ ?_
      refine g_goto (tgt := 36) C D_Ce_openFor_32 (by decide) ?_
      refine g_sub [2, 3, 1, 0] rfl ?_
      exact wj_Ce_openFor_36 C _ _ _ _ _
  · refine g_iconst C D_Ce_openFor_18 ⟨by decide, by decide⟩ ?_
    exact g_iret C D_Ce_openFor_19
theorem c_Ce_openFor {σ : gM} {v1 : Int} {r : gR} (ho : F_Ce_openFor σ v1 = some r) (hok : gOk [.inr (.inr 5), .inl v1]) (hin : gIn gctC σ) : gCt gctC Y_Ce_openFor prog_3_method_7_code 6 (some .int) 0 0 [.inr (.inr 5), .inl v1] σ r := g_entry (by decide) rfl (Nat.le_of_ble_eq_true rfl) ho hok hin (fun X C => w_Ce_openFor C σ v1)
theorem D_Ce_righted_0 : decode prog_3_method_4_code 0 = .ok (.iload_n 0, 1) := by decide +kernel
theorem D_Ce_righted_1 : decode prog_3_method_4_code 1 = .ok (.iconst 1, 1) := by decide +kernel
theorem D_Ce_righted_2 : decode prog_3_method_4_code 2 = .ok (.iand, 1) := by decide +kernel
theorem D_Ce_righted_3 : decode prog_3_method_4_code 3 = .ok (.istore_n 1, 1) := by decide +kernel
theorem D_Ce_righted_4 : decode prog_3_method_4_code 4 = .ok (.iconst 0, 1) := by decide +kernel
theorem D_Ce_righted_5 : decode prog_3_method_4_code 5 = .ok (.istore_n 2, 1) := by decide +kernel
theorem D_Ce_righted_6 : decode prog_3_method_4_code 6 = .ok (.iconst 1, 1) := by decide +kernel
theorem D_Ce_righted_7 : decode prog_3_method_4_code 7 = .ok (.istore_n 3, 1) := by decide +kernel
theorem D_Ce_righted_8 : decode prog_3_method_4_code 8 = .ok (.iload_n 3, 1) := by decide +kernel
theorem D_Ce_righted_9 : decode prog_3_method_4_code 9 = .ok (.bipush 13, 2) := by decide +kernel
theorem D_Ce_righted_11 : decode prog_3_method_4_code 11 = .ok (.if_icmp .ge 28, 3) := by decide +kernel
theorem D_Ce_righted_14 : decode prog_3_method_4_code 14 = .ok (.iload_n 0, 1) := by decide +kernel
theorem D_Ce_righted_15 : decode prog_3_method_4_code 15 = .ok (.iload_n 3, 1) := by decide +kernel
theorem D_Ce_righted_16 : decode prog_3_method_4_code 16 = .ok (.ishr, 1) := by decide +kernel
theorem D_Ce_righted_17 : decode prog_3_method_4_code 17 = .ok (.iconst 1, 1) := by decide +kernel
theorem D_Ce_righted_18 : decode prog_3_method_4_code 18 = .ok (.iand, 1) := by decide +kernel
theorem D_Ce_righted_19 : decode prog_3_method_4_code 19 = .ok (.ifCond .ne 6, 3) := by decide +kernel
theorem D_Ce_righted_22 : decode prog_3_method_4_code 22 = .ok (.goto 11, 3) := by decide +kernel
theorem D_Ce_righted_25 : decode prog_3_method_4_code 25 = .ok (.iload_n 2, 1) := by decide +kernel
theorem D_Ce_righted_26 : decode prog_3_method_4_code 26 = .ok (.iload_n 3, 1) := by decide +kernel
theorem D_Ce_righted_27 : decode prog_3_method_4_code 27 = .ok (.ixor, 1) := by decide +kernel
theorem D_Ce_righted_28 : decode prog_3_method_4_code 28 = .ok (.istore_n 2, 1) := by decide +kernel
theorem D_Ce_righted_29 : decode prog_3_method_4_code 29 = .ok (.iload_n 1, 1) := by decide +kernel
theorem D_Ce_righted_30 : decode prog_3_method_4_code 30 = .ok (.iconst 1, 1) := by decide +kernel
theorem D_Ce_righted_31 : decode prog_3_method_4_code 31 = .ok (.ixor, 1) := by decide +kernel
theorem D_Ce_righted_32 : decode prog_3_method_4_code 32 = .ok (.istore_n 1, 1) := by decide +kernel
theorem D_Ce_righted_33 : decode prog_3_method_4_code 33 = .ok (.iinc 3 1, 3) := by decide +kernel
theorem D_Ce_righted_36 : decode prog_3_method_4_code 36 = .ok (.goto (-28), 3) := by decide +kernel
theorem D_Ce_righted_39 : decode prog_3_method_4_code 39 = .ok (.iload_n 1, 1) := by decide +kernel
theorem D_Ce_righted_40 : decode prog_3_method_4_code 40 = .ok (.ifCond .ne 14, 3) := by decide +kernel
theorem D_Ce_righted_43 : decode prog_3_method_4_code 43 = .ok (.iload_n 2, 1) := by decide +kernel
theorem D_Ce_righted_44 : decode prog_3_method_4_code 44 = .ok (.ifCond .ne 7, 3) := by decide +kernel
theorem D_Ce_righted_47 : decode prog_3_method_4_code 47 = .ok (.iload_n 0, 1) := by decide +kernel
theorem D_Ce_righted_48 : decode prog_3_method_4_code 48 = .ok (.goto 5, 3) := by decide +kernel
theorem D_Ce_righted_51 : decode prog_3_method_4_code 51 = .ok (.bipush (-5), 2) := by decide +kernel
theorem D_Ce_righted_53 : decode prog_3_method_4_code 53 = .ok (.ireturn, 1) := by decide +kernel
theorem D_Ce_righted_54 : decode prog_3_method_4_code 54 = .ok (.iload_n 2, 1) := by decide +kernel
theorem D_Ce_righted_55 : decode prog_3_method_4_code 55 = .ok (.bipush 13, 2) := by decide +kernel
theorem D_Ce_righted_57 : decode prog_3_method_4_code 57 = .ok (.if_icmp .ge 11, 3) := by decide +kernel
theorem D_Ce_righted_60 : decode prog_3_method_4_code 60 = .ok (.iload_n 0, 1) := by decide +kernel
theorem D_Ce_righted_61 : decode prog_3_method_4_code 61 = .ok (.iconst 1, 1) := by decide +kernel
theorem D_Ce_righted_62 : decode prog_3_method_4_code 62 = .ok (.iload_n 2, 1) := by decide +kernel
theorem D_Ce_righted_63 : decode prog_3_method_4_code 63 = .ok (.ishl, 1) := by decide +kernel
theorem D_Ce_righted_64 : decode prog_3_method_4_code 64 = .ok (.ixor, 1) := by decide +kernel
theorem D_Ce_righted_65 : decode prog_3_method_4_code 65 = .ok (.goto 5, 3) := by decide +kernel
theorem D_Ce_righted_68 : decode prog_3_method_4_code 68 = .ok (.bipush (-5), 2) := by decide +kernel
theorem D_Ce_righted_70 : decode prog_3_method_4_code 70 = .ok (.ireturn, 1) := by decide +kernel
def j_Ce_righted_33 (k1 : gM → Int → Int → gO) (rec : gM → Int → Int → Int → gO) (σ : gM) (p0 v1 v2 v3 : Int) : gO :=
  ga (v3 + 1) fun a1 =>
  rec σ v1 v2 a1
set_option maxHeartbeats 4000000 in
theorem wj_Ce_righted_33 {X : gX} (C : gC gctC prog_3_method_4_code kR1 4 0 0 (some .int) X) {p0 : Int} {k1 : gM → Int → Int → gO} (hk1 : ∀ (σ : gM) (a0 a1 : Int), GG gctC X 39 [(0, .inl p0), (1, .inl a0), (2, .inl a1)] [] σ (k1 σ a0 a1)) {rec : gM → Int → Int → Int → gO} (hrec : ∀ (σ : gM) (a0 a1 a2 : Int), GG gctC X 8 [(0, .inl p0), (1, .inl a0), (2, .inl a1), (3, .inl a2)] [] σ (rec σ a0 a1 a2)) (σ : gM) (v1 v2 v3 : Int) : GG gctC X 33 [(0, .inl p0), (1, .inl v1), (2, .inl v2), (3, .inl v3)] [] σ (j_Ce_righted_33 k1 rec σ p0 v1 v2 v3) := by
  unfold j_Ce_righted_33
  refine g_iinc (t := 3) (L' := fun z => [(3, .inl z), (0, .inl p0), (1, .inl v1), (2, .inl v2)]) C D_Ce_righted_33 rfl (by decide) (fun _ => rfl) (fun a1 => ?_)
  refine g_goto (tgt := 8) C D_Ce_righted_36 (by decide) ?_
  refine g_sub [1, 2, 3, 0] rfl ?_
  exact hrec _ _ _ _
def l_Ce_righted_8 (k1 : gM → Int → Int → gO) (p0 : Int) (rec : gM → Int → Int → Int → gO) (σ : gM) (v1 v2 v3 : Int) : gO :=
  if v3 < 13 then
  (if (gAnd (gShr p0 v3) 1) = 0 then
  (j_Ce_righted_33 k1 rec σ p0 v1 v2 v3)
  else
  (gv (gXor v2 v3) fun a1 =>
  gv (gXor v1 1) fun a2 =>
  j_Ce_righted_33 k1 rec σ p0 a2 a1 v3))
  else
  (k1 σ v1 v2)
set_option maxHeartbeats 4000000 in
theorem wl_Ce_righted_8 {X : gX} (C : gC gctC prog_3_method_4_code kR1 4 0 0 (some .int) X) {p0 : Int} {k1 : gM → Int → Int → gO} (hk1 : ∀ (σ : gM) (a0 a1 : Int), GG gctC X 39 [(0, .inl p0), (1, .inl a0), (2, .inl a1)] [] σ (k1 σ a0 a1)) : ∀ (n : Nat) (σ : gM) (a0 a1 a2 : Int), GG gctC X 8 [(0, .inl p0), (1, .inl a0), (2, .inl a1), (3, .inl a2)] [] σ (gl3 (l_Ce_righted_8 k1 p0) n σ a0 a1 a2) := by
  refine gl3_run (P := fun σ a0 a1 a2 o => GG gctC X 8 [(0, .inl p0), (1, .inl a0), (2, .inl a1), (3, .inl a2)] [] σ o) (fun _ _ _ _ => g_none) (fun rec hrec σ v1 v2 v3 => ?_)
  unfold l_Ce_righted_8
  refine g_iload_n C D_Ce_righted_8 rfl 3 rfl ?_
  refine g_bipush C D_Ce_righted_9 (by decide) ⟨by decide, by decide⟩ ?_
  refine g_icmp_ge (tgt := 39) C D_Ce_righted_11 (by decide) ?_ ?_
  · refine g_sub [0, 1, 2] rfl ?_
    exact hk1 _ _ _
  · refine g_iload_n C D_Ce_righted_14 rfl 0 rfl ?_
    refine g_iload_n C D_Ce_righted_15 rfl 3 rfl ?_
    refine g_ishr C D_Ce_righted_16 ?_
    refine g_iconst C D_Ce_righted_17 ⟨by decide, by decide⟩ ?_
    refine g_iand C D_Ce_righted_18 ?_
    refine g_if_ne (tgt := 25) C D_Ce_righted_19 (by decide) ?_ ?_
    · refine g_iload_n C D_Ce_righted_25 rfl 2 rfl ?_
      refine g_iload_n C D_Ce_righted_26 rfl 3 rfl ?_
      refine g_ixor C D_Ce_righted_27 ?_
      refine g_let C (fun a1 => ?_)
      refine g_istore_n (L' := [(2, .inl a1), (0, .inl p0), (1, .inl v1), (3, .inl v3)]) C D_Ce_righted_28 rfl (by decide) rfl ?_
      refine g_iload_n C D_Ce_righted_29 rfl 2 rfl ?_
      refine g_iconst C D_Ce_righted_30 ⟨by decide, by decide⟩ ?_
      refine g_ixor C D_Ce_righted_31 ?_
      refine g_let C (fun a2 => ?_)
      refine g_istore_n (L' := [(1, .inl a2), (2, .inl a1), (0, .inl p0), (3, .inl v3)]) C D_Ce_righted_32 rfl (by decide) rfl ?_
      refine g_sub [2, 0, 1, 3] rfl ?_
      exact wj_Ce_righted_33 C hk1 hrec _ _ _ _
    · refine g_goto (tgt := 33) C D_Ce_righted_22 (by decide) ?_
      exact wj_Ce_righted_33 C hk1 hrec _ _ _ _
def j_Ce_righted_70 (σ : gM) (t0 : Int) : gO :=
  some (σ, t0)
set_option maxHeartbeats 4000000 in
theorem wj_Ce_righted_70 {X : gX} (C : gC gctC prog_3_method_4_code kR1 4 0 0 (some .int) X) (σ : gM) (t0 : Int) : GG gctC X 70 [] [.inl t0] σ (j_Ce_righted_70 σ t0) := by
  unfold j_Ce_righted_70
  exact g_iret C D_Ce_righted_70
def j_Ce_righted_53 (σ : gM) (t0 : Int) : gO :=
  some (σ, t0)
set_option maxHeartbeats 4000000 in
theorem wj_Ce_righted_53 {X : gX} (C : gC gctC prog_3_method_4_code kR1 4 0 0 (some .int) X) (σ : gM) (t0 : Int) : GG gctC X 53 [] [.inl t0] σ (j_Ce_righted_53 σ t0) := by
  unfold j_Ce_righted_53
  exact g_iret C D_Ce_righted_53
def F_Ce_righted (σ : gM) (v0 : Int) : gO :=
  gv (gAnd v0 1) fun a1 =>
  gl3 (l_Ce_righted_8 (fun s4 b2 b3 => if b2 = 0 then
  (if b3 = 0 then
  (j_Ce_righted_53 s4 v0)
  else
  (j_Ce_righted_53 s4 (-5)))
  else
  (if b3 < 13 then
  (j_Ce_righted_70 s4 (gXor v0 (gShl 1 b3)))
  else
  (j_Ce_righted_70 s4 (-5)))) v0) 200 σ a1 0 1
set_option maxHeartbeats 4000000 in
theorem w_Ce_righted {X : gX} (C : gC gctC prog_3_method_4_code kR1 4 0 0 (some .int) X) (σ : gM) (v0 : Int) : GG gctC X 0 [(0, .inl v0)] [] σ (F_Ce_righted σ v0) := by
  unfold F_Ce_righted
  refine g_iload_n C D_Ce_righted_0 rfl 0 rfl ?_
  refine g_iconst C D_Ce_righted_1 ⟨by decide, by decide⟩ ?_
  refine g_iand C D_Ce_righted_2 ?_
  refine g_let C (fun a1 => ?_)
  refine g_istore_n (L' := [(1, .inl a1), (0, .inl v0)]) C D_Ce_righted_3 rfl (by decide) rfl ?_
  refine g_iconst C D_Ce_righted_4 ⟨by decide, by decide⟩ ?_
  refine g_istore_n (L' := [(2, .inl 0), (1, .inl a1), (0, .inl v0)]) C D_Ce_righted_5 rfl (by decide) rfl ?_
  refine g_iconst C D_Ce_righted_6 ⟨by decide, by decide⟩ ?_
  refine g_istore_n (L' := [(3, .inl 1), (2, .inl 0), (1, .inl a1), (0, .inl v0)]) C D_Ce_righted_7 rfl (by decide) rfl ?_
  refine g_sub [3, 2, 1, 0] rfl ?_
  exact wl_Ce_righted_8 C (fun s4 b2 b3 => by
      refine g_iload_n C D_Ce_righted_39 rfl 1 rfl ?_
      refine g_if_ne (tgt := 54) C D_Ce_righted_40 (by decide) ?_ ?_
      · refine g_iload_n C D_Ce_righted_54 rfl 2 rfl ?_
        refine g_bipush C D_Ce_righted_55 (by decide) ⟨by decide, by decide⟩ ?_
        refine g_icmp_ge (tgt := 68) C D_Ce_righted_57 (by decide) ?_ ?_
        · refine g_bipush C D_Ce_righted_68 (by decide) ⟨by decide, by decide⟩ ?_
          refine g_sub [] rfl ?_
          exact wj_Ce_righted_70 C _ _
        · refine g_iload_n C D_Ce_righted_60 rfl 0 rfl ?_
          refine g_iconst C D_Ce_righted_61 ⟨by decide, by decide⟩ ?_
          refine g_iload_n C D_Ce_righted_62 rfl 2 rfl ?_
          refine g_ishl C D_Ce_righted_63 ?_
          refine g_ixor C D_Ce_righted_64 ?_
          refine g_goto (tgt := 70) C D_Ce_righted_65 (by decide) ?_
          refine g_sub [] rfl ?_
          exact wj_Ce_righted_70 C _ _
      · refine g_iload_n C D_Ce_righted_43 rfl 2 rfl ?_
        refine g_if_ne (tgt := 51) C D_Ce_righted_44 (by decide) ?_ ?_
        · refine g_bipush C D_Ce_righted_51 (by decide) ⟨by decide, by decide⟩ ?_
          refine g_sub [] rfl ?_
          exact wj_Ce_righted_53 C _ _
        · refine g_iload_n C D_Ce_righted_47 rfl 0 rfl ?_
          refine g_goto (tgt := 53) C D_Ce_righted_48 (by decide) ?_
          refine g_sub [] rfl ?_
          exact wj_Ce_righted_53 C _ _) 200 _ _ _ _
theorem c_Ce_righted {σ : gM} {v0 : Int} {r : gR} (ho : F_Ce_righted σ v0 = some r) (hok : gOk [.inl v0]) (hin : gIn gctC σ) : gCt gctC Y_Ce_righted prog_3_method_4_code 4 (some .int) 0 0 [.inl v0] σ r := g_entry (by decide) rfl (Nat.le_of_ble_eq_true rfl) ho hok hin (fun X C => w_Ce_righted C σ v0)
theorem D_Ce_valueOf_0 : decode prog_3_method_3_code 0 = .ok (.iload_n 0, 1) := by decide +kernel
theorem D_Ce_valueOf_1 : decode prog_3_method_3_code 1 = .ok (.iconst 3, 1) := by decide +kernel
theorem D_Ce_valueOf_2 : decode prog_3_method_3_code 2 = .ok (.ishr, 1) := by decide +kernel
theorem D_Ce_valueOf_3 : decode prog_3_method_3_code 3 = .ok (.iconst 1, 1) := by decide +kernel
theorem D_Ce_valueOf_4 : decode prog_3_method_3_code 4 = .ok (.iand, 1) := by decide +kernel
theorem D_Ce_valueOf_5 : decode prog_3_method_3_code 5 = .ok (.iload_n 0, 1) := by decide +kernel
theorem D_Ce_valueOf_6 : decode prog_3_method_3_code 6 = .ok (.iconst 4, 1) := by decide +kernel
theorem D_Ce_valueOf_7 : decode prog_3_method_3_code 7 = .ok (.ishr, 1) := by decide +kernel
theorem D_Ce_valueOf_8 : decode prog_3_method_3_code 8 = .ok (.bipush 14, 2) := by decide +kernel
theorem D_Ce_valueOf_10 : decode prog_3_method_3_code 10 = .ok (.iand, 1) := by decide +kernel
theorem D_Ce_valueOf_11 : decode prog_3_method_3_code 11 = .ok (.ior, 1) := by decide +kernel
theorem D_Ce_valueOf_12 : decode prog_3_method_3_code 12 = .ok (.iload_n 0, 1) := by decide +kernel
theorem D_Ce_valueOf_13 : decode prog_3_method_3_code 13 = .ok (.iconst 5, 1) := by decide +kernel
theorem D_Ce_valueOf_14 : decode prog_3_method_3_code 14 = .ok (.ishr, 1) := by decide +kernel
theorem D_Ce_valueOf_15 : decode prog_3_method_3_code 15 = .ok (.sipush 240, 3) := by decide +kernel
theorem D_Ce_valueOf_18 : decode prog_3_method_3_code 18 = .ok (.iand, 1) := by decide +kernel
theorem D_Ce_valueOf_19 : decode prog_3_method_3_code 19 = .ok (.ior, 1) := by decide +kernel
theorem D_Ce_valueOf_20 : decode prog_3_method_3_code 20 = .ok (.ireturn, 1) := by decide +kernel
def F_Ce_valueOf (σ : gM) (v0 : Int) : gO :=
  some (σ, (gOr (gOr (gAnd (gShr v0 3) 1) (gAnd (gShr v0 4) 14)) (gAnd (gShr v0 5) 240)))
set_option maxHeartbeats 4000000 in
theorem w_Ce_valueOf {X : gX} (C : gC gctC prog_3_method_3_code kR1 1 0 0 (some .int) X) (σ : gM) (v0 : Int) : GG gctC X 0 [(0, .inl v0)] [] σ (F_Ce_valueOf σ v0) := by
  unfold F_Ce_valueOf
  refine g_iload_n C D_Ce_valueOf_0 rfl 0 rfl ?_
  refine g_iconst C D_Ce_valueOf_1 ⟨by decide, by decide⟩ ?_
  refine g_ishr C D_Ce_valueOf_2 ?_
  refine g_iconst C D_Ce_valueOf_3 ⟨by decide, by decide⟩ ?_
  refine g_iand C D_Ce_valueOf_4 ?_
  refine g_iload_n C D_Ce_valueOf_5 rfl 0 rfl ?_
  refine g_iconst C D_Ce_valueOf_6 ⟨by decide, by decide⟩ ?_
  refine g_ishr C D_Ce_valueOf_7 ?_
  refine g_bipush C D_Ce_valueOf_8 (by decide) ⟨by decide, by decide⟩ ?_
  refine g_iand C D_Ce_valueOf_10 ?_
  refine g_ior C D_Ce_valueOf_11 ?_
  refine g_iload_n C D_Ce_valueOf_12 rfl 0 rfl ?_
  refine g_iconst C D_Ce_valueOf_13 ⟨by decide, by decide⟩ ?_
  refine g_ishr C D_Ce_valueOf_14 ?_
  refine g_sipush C D_Ce_valueOf_15 (by decide) ⟨by decide, by decide⟩ ?_
  refine g_iand C D_Ce_valueOf_18 ?_
  refine g_ior C D_Ce_valueOf_19 ?_
  exact g_iret C D_Ce_valueOf_20
theorem c_Ce_valueOf {σ : gM} {v0 : Int} {r : gR} (ho : F_Ce_valueOf σ v0 = some r) (hok : gOk [.inl v0]) (hin : gIn gctC σ) : gCt gctC Y_Ce_valueOf prog_3_method_3_code 1 (some .int) 0 0 [.inl v0] σ r := g_entry (by decide) rfl (Nat.le_of_ble_eq_true rfl) ho hok hin (fun X C => w_Ce_valueOf C σ v0)
theorem D_Ce_read_0 : decode prog_3_method_6_code 0 = .ok (.aload_n 0, 1) := by decide +kernel
theorem D_Ce_read_1 : decode prog_3_method_6_code 1 = .ok (.getfield 9, 3) := by decide +kernel
theorem D_Ce_read_4 : decode prog_3_method_6_code 4 = .ok (.iload_n 1, 1) := by decide +kernel
theorem D_Ce_read_5 : decode prog_3_method_6_code 5 = .ok (.iaload, 1) := by decide +kernel
theorem D_Ce_read_6 : decode prog_3_method_6_code 6 = .ok (.invokestatic 28, 3) := by decide +kernel
theorem D_Ce_read_9 : decode prog_3_method_6_code 9 = .ok (.istore_n 2, 1) := by decide +kernel
theorem D_Ce_read_10 : decode prog_3_method_6_code 10 = .ok (.iload_n 2, 1) := by decide +kernel
theorem D_Ce_read_11 : decode prog_3_method_6_code 11 = .ok (.bipush (-5), 2) := by decide +kernel
theorem D_Ce_read_13 : decode prog_3_method_6_code 13 = .ok (.if_icmp .ne 6, 3) := by decide +kernel
theorem D_Ce_read_16 : decode prog_3_method_6_code 16 = .ok (.bipush (-5), 2) := by decide +kernel
theorem D_Ce_read_18 : decode prog_3_method_6_code 18 = .ok (.ireturn, 1) := by decide +kernel
theorem D_Ce_read_19 : decode prog_3_method_6_code 19 = .ok (.iload_n 2, 1) := by decide +kernel
theorem D_Ce_read_20 : decode prog_3_method_6_code 20 = .ok (.aload_n 0, 1) := by decide +kernel
theorem D_Ce_read_21 : decode prog_3_method_6_code 21 = .ok (.getfield 9, 3) := by decide +kernel
theorem D_Ce_read_24 : decode prog_3_method_6_code 24 = .ok (.iload_n 1, 1) := by decide +kernel
theorem D_Ce_read_25 : decode prog_3_method_6_code 25 = .ok (.iaload, 1) := by decide +kernel
theorem D_Ce_read_26 : decode prog_3_method_6_code 26 = .ok (.if_icmp .eq 20, 3) := by decide +kernel
theorem D_Ce_read_29 : decode prog_3_method_6_code 29 = .ok (.aload_n 0, 1) := by decide +kernel
theorem D_Ce_read_30 : decode prog_3_method_6_code 30 = .ok (.getfield 9, 3) := by decide +kernel
theorem D_Ce_read_33 : decode prog_3_method_6_code 33 = .ok (.iload_n 1, 1) := by decide +kernel
theorem D_Ce_read_34 : decode prog_3_method_6_code 34 = .ok (.iload_n 2, 1) := by decide +kernel
theorem D_Ce_read_35 : decode prog_3_method_6_code 35 = .ok (.iastore, 1) := by decide +kernel
theorem D_Ce_read_36 : decode prog_3_method_6_code 36 = .ok (.aload_n 0, 1) := by decide +kernel
theorem D_Ce_read_37 : decode prog_3_method_6_code 37 = .ok (.getfield 21, 3) := by decide +kernel
theorem D_Ce_read_40 : decode prog_3_method_6_code 40 = .ok (.bipush 8, 2) := by decide +kernel
theorem D_Ce_read_42 : decode prog_3_method_6_code 42 = .ok (.iconst 1, 1) := by decide +kernel
theorem D_Ce_read_43 : decode prog_3_method_6_code 43 = .ok (.invokevirtual 35, 3) := by decide +kernel
theorem D_Ce_read_46 : decode prog_3_method_6_code 46 = .ok (.iload_n 2, 1) := by decide +kernel
theorem D_Ce_read_47 : decode prog_3_method_6_code 47 = .ok (.invokestatic 32, 3) := by decide +kernel
theorem D_Ce_read_50 : decode prog_3_method_6_code 50 = .ok (.ireturn, 1) := by decide +kernel
def j_Ce_read_46 (σ : gM) (v2 : Int) : gO :=
  gk (F_Ce_valueOf σ v2) fun s1 a2 =>
  some (s1, a2)
set_option maxHeartbeats 4000000 in
theorem wj_Ce_read_46 {X : gX} (C : gC gctC prog_3_method_6_code kR1 3 1 23 (some .int) X) (σ : gM) (v2 : Int) : GG gctC X 46 [(2, .inl v2)] [] σ (j_Ce_read_46 σ v2) := by
  unfold j_Ce_read_46
  refine g_iload_n C D_Ce_read_46 rfl 0 rfl ?_
  refine g_callSi C [.inl v2] [] (Or.inl rfl) rfl (fun _ h1 h2 h3 => c_Ce_valueOf h1 h2 h3) wc_1_32 (by decide) (Nat.le_of_ble_eq_true rfl) D_Ce_read_47 (fun s1 a2 => ?_)
  exact g_iret C D_Ce_read_50
def F_Ce_read (σ : gM) (v1 : Int) : gO :=
  gi v1 512 <|
  gk (F_Ce_righted σ (σ 6 v1)) fun s1 a2 =>
  if a2 = (-5) then
  (some (s1, (-5)))
  else
  (gi v1 512 <|
  if a2 = (s1 6 v1) then
  (j_Ce_read_46 s1 a2)
  else
  (gw s1 6 512 v1 a2 fun s3 =>
  gk (F_Le_add s3 8 1) fun s4 _ =>
  j_Ce_read_46 s4 a2))
set_option maxHeartbeats 4000000 in
theorem w_Ce_read {X : gX} (C : gC gctC prog_3_method_6_code kR1 3 1 23 (some .int) X) (σ : gM) (v1 : Int) : GG gctC X 0 [(0, .inr (.inr 5)), (1, .inl v1)] [] σ (F_Ce_read σ v1) := by
  unfold F_Ce_read
  refine g_aload_n C D_Ce_read_0 rfl 0 rfl ?_
  refine g_getr (ci := 1) C 0 rfl kI1 rfl (by decide) rfl rfl wf_1_9 D_Ce_read_1 ?_
  refine g_iload_n C D_Ce_read_4 rfl 1 rfl ?_
  refine g_iald C rfl rfl rfl D_Ce_read_5 ?_
  refine g_callSi C [.inl (σ 6 v1)] [] (Or.inl rfl) rfl (fun _ h1 h2 h3 => c_Ce_righted h1 h2 h3) wc_1_28 (by decide) (Nat.le_of_ble_eq_true rfl) D_Ce_read_6 (fun s1 a2 => ?_)
  refine g_istore_n (L' := [(2, .inl a2), (0, .inr (.inr 5)), (1, .inl v1)]) C D_Ce_read_9 rfl (by decide) rfl ?_
  refine g_iload_n C D_Ce_read_10 rfl 0 rfl ?_
  refine g_bipush C D_Ce_read_11 (by decide) ⟨by decide, by decide⟩ ?_
  refine g_icmp_ne (tgt := 19) C D_Ce_read_13 (by decide) ?_ ?_
  · refine g_iload_n C D_Ce_read_19 rfl 0 rfl ?_
    refine g_aload_n C D_Ce_read_20 rfl 1 rfl ?_
    refine g_getr (ci := 1) C 0 rfl kI1 rfl (by decide) rfl rfl wf_1_9 D_Ce_read_21 ?_
    refine g_iload_n C D_Ce_read_24 rfl 2 rfl ?_
    refine g_iald C rfl rfl rfl D_Ce_read_25 ?_
    refine g_icmp_eq (tgt := 46) C D_Ce_read_26 (by decide) ?_ ?_
    · refine g_sub [0] rfl ?_
      exact wj_Ce_read_46 C _ _
    · refine g_aload_n C D_Ce_read_29 rfl 1 rfl ?_
      refine g_getr (ci := 1) C 0 rfl kI1 rfl (by decide) rfl rfl wf_1_9 D_Ce_read_30 ?_
      refine g_iload_n C D_Ce_read_33 rfl 2 rfl ?_
      refine g_iload_n C D_Ce_read_34 rfl 0 rfl ?_
      refine g_iast C rfl rfl D_Ce_read_35 (fun s3 => ?_)
      refine g_aload_n C D_Ce_read_36 rfl 1 rfl ?_
      refine g_getr (ci := 1) C 4 rfl kI1 rfl (by decide) rfl rfl wf_1_21 D_Ce_read_37 ?_
      refine g_bipush C D_Ce_read_40 (by decide) ⟨by decide, by decide⟩ ?_
      refine g_iconst C D_Ce_read_42 ⟨by decide, by decide⟩ ?_
      refine g_callVv (ci := 3) C [.inl 8, .inl 1] [] rfl rfl (fun _ h1 h2 h3 => c_Le_add h1 h2 h3) rfl rfl wc_1_35 (by decide) (Nat.le_of_ble_eq_true rfl) D_Ce_read_43 (fun s4 _ => ?_)
      refine g_sub [0] rfl ?_
      exact wj_Ce_read_46 C _ _
  · refine g_bipush C D_Ce_read_16 (by decide) ⟨by decide, by decide⟩ ?_
    exact g_iret C D_Ce_read_18
theorem c_Ce_read {σ : gM} {v1 : Int} {r : gR} (ho : F_Ce_read σ v1 = some r) (hok : gOk [.inr (.inr 5), .inl v1]) (hin : gIn gctC σ) : gCt gctC Y_Ce_read prog_3_method_6_code 3 (some .int) 1 23 [.inr (.inr 5), .inl v1] σ r := g_entry (by decide) rfl (Nat.le_of_ble_eq_true rfl) ho hok hin (fun X C => w_Ce_read C σ v1)
theorem D_Ce_coded_0 : decode prog_3_method_2_code 0 = .ok (.iconst 0, 1) := by decide +kernel
theorem D_Ce_coded_1 : decode prog_3_method_2_code 1 = .ok (.istore_n 1, 1) := by decide +kernel
theorem D_Ce_coded_2 : decode prog_3_method_2_code 2 = .ok (.iconst 0, 1) := by decide +kernel
theorem D_Ce_coded_3 : decode prog_3_method_2_code 3 = .ok (.istore_n 2, 1) := by decide +kernel
theorem D_Ce_coded_4 : decode prog_3_method_2_code 4 = .ok (.iconst 0, 1) := by decide +kernel
theorem D_Ce_coded_5 : decode prog_3_method_2_code 5 = .ok (.istore_n 3, 1) := by decide +kernel
theorem D_Ce_coded_6 : decode prog_3_method_2_code 6 = .ok (.iconst 0, 1) := by decide +kernel
theorem D_Ce_coded_7 : decode prog_3_method_2_code 7 = .ok (.istore 4, 2) := by decide +kernel
theorem D_Ce_coded_9 : decode prog_3_method_2_code 9 = .ok (.iload 4, 2) := by decide +kernel
theorem D_Ce_coded_11 : decode prog_3_method_2_code 11 = .ok (.bipush 8, 2) := by decide +kernel
theorem D_Ce_coded_13 : decode prog_3_method_2_code 13 = .ok (.if_icmp .ge 45, 3) := by decide +kernel
theorem D_Ce_coded_16 : decode prog_3_method_2_code 16 = .ok (.iload_n 0, 1) := by decide +kernel
theorem D_Ce_coded_17 : decode prog_3_method_2_code 17 = .ok (.iload 4, 2) := by decide +kernel
theorem D_Ce_coded_19 : decode prog_3_method_2_code 19 = .ok (.ishr, 1) := by decide +kernel
theorem D_Ce_coded_20 : decode prog_3_method_2_code 20 = .ok (.iconst 1, 1) := by decide +kernel
theorem D_Ce_coded_21 : decode prog_3_method_2_code 21 = .ok (.iand, 1) := by decide +kernel
theorem D_Ce_coded_22 : decode prog_3_method_2_code 22 = .ok (.ifCond .ne 6, 3) := by decide +kernel
theorem D_Ce_coded_25 : decode prog_3_method_2_code 25 = .ok (.goto 27, 3) := by decide +kernel
theorem D_Ce_coded_28 : decode prog_3_method_2_code 28 = .ok (.iload_n 1, 1) := by decide +kernel
theorem D_Ce_coded_29 : decode prog_3_method_2_code 29 = .ok (.iconst 1, 1) := by decide +kernel
theorem D_Ce_coded_30 : decode prog_3_method_2_code 30 = .ok (.getstatic 25, 3) := by decide +kernel
theorem D_Ce_coded_33 : decode prog_3_method_2_code 33 = .ok (.iload 4, 2) := by decide +kernel
theorem D_Ce_coded_35 : decode prog_3_method_2_code 35 = .ok (.iaload, 1) := by decide +kernel
theorem D_Ce_coded_36 : decode prog_3_method_2_code 36 = .ok (.ishl, 1) := by decide +kernel
theorem D_Ce_coded_37 : decode prog_3_method_2_code 37 = .ok (.ior, 1) := by decide +kernel
theorem D_Ce_coded_38 : decode prog_3_method_2_code 38 = .ok (.istore_n 1, 1) := by decide +kernel
theorem D_Ce_coded_39 : decode prog_3_method_2_code 39 = .ok (.iload_n 2, 1) := by decide +kernel
theorem D_Ce_coded_40 : decode prog_3_method_2_code 40 = .ok (.getstatic 25, 3) := by decide +kernel
theorem D_Ce_coded_43 : decode prog_3_method_2_code 43 = .ok (.iload 4, 2) := by decide +kernel
theorem D_Ce_coded_45 : decode prog_3_method_2_code 45 = .ok (.iaload, 1) := by decide +kernel
theorem D_Ce_coded_46 : decode prog_3_method_2_code 46 = .ok (.ixor, 1) := by decide +kernel
theorem D_Ce_coded_47 : decode prog_3_method_2_code 47 = .ok (.istore_n 2, 1) := by decide +kernel
theorem D_Ce_coded_48 : decode prog_3_method_2_code 48 = .ok (.iload_n 3, 1) := by decide +kernel
theorem D_Ce_coded_49 : decode prog_3_method_2_code 49 = .ok (.iconst 1, 1) := by decide +kernel
theorem D_Ce_coded_50 : decode prog_3_method_2_code 50 = .ok (.ixor, 1) := by decide +kernel
theorem D_Ce_coded_51 : decode prog_3_method_2_code 51 = .ok (.istore_n 3, 1) := by decide +kernel
theorem D_Ce_coded_52 : decode prog_3_method_2_code 52 = .ok (.iinc 4 1, 3) := by decide +kernel
theorem D_Ce_coded_55 : decode prog_3_method_2_code 55 = .ok (.goto (-46), 3) := by decide +kernel
theorem D_Ce_coded_58 : decode prog_3_method_2_code 58 = .ok (.iconst 0, 1) := by decide +kernel
theorem D_Ce_coded_59 : decode prog_3_method_2_code 59 = .ok (.istore 4, 2) := by decide +kernel
theorem D_Ce_coded_61 : decode prog_3_method_2_code 61 = .ok (.iload 4, 2) := by decide +kernel
theorem D_Ce_coded_63 : decode prog_3_method_2_code 63 = .ok (.iconst 4, 1) := by decide +kernel
theorem D_Ce_coded_64 : decode prog_3_method_2_code 64 = .ok (.if_icmp .ge 34, 3) := by decide +kernel
theorem D_Ce_coded_67 : decode prog_3_method_2_code 67 = .ok (.iload_n 2, 1) := by decide +kernel
theorem D_Ce_coded_68 : decode prog_3_method_2_code 68 = .ok (.iload 4, 2) := by decide +kernel
theorem D_Ce_coded_70 : decode prog_3_method_2_code 70 = .ok (.ishr, 1) := by decide +kernel
theorem D_Ce_coded_71 : decode prog_3_method_2_code 71 = .ok (.iconst 1, 1) := by decide +kernel
theorem D_Ce_coded_72 : decode prog_3_method_2_code 72 = .ok (.iand, 1) := by decide +kernel
theorem D_Ce_coded_73 : decode prog_3_method_2_code 73 = .ok (.ifCond .ne 6, 3) := by decide +kernel
theorem D_Ce_coded_76 : decode prog_3_method_2_code 76 = .ok (.goto 16, 3) := by decide +kernel
theorem D_Ce_coded_79 : decode prog_3_method_2_code 79 = .ok (.iload_n 1, 1) := by decide +kernel
theorem D_Ce_coded_80 : decode prog_3_method_2_code 80 = .ok (.iconst 1, 1) := by decide +kernel
theorem D_Ce_coded_81 : decode prog_3_method_2_code 81 = .ok (.iconst 1, 1) := by decide +kernel
theorem D_Ce_coded_82 : decode prog_3_method_2_code 82 = .ok (.iload 4, 2) := by decide +kernel
theorem D_Ce_coded_84 : decode prog_3_method_2_code 84 = .ok (.ishl, 1) := by decide +kernel
theorem D_Ce_coded_85 : decode prog_3_method_2_code 85 = .ok (.ishl, 1) := by decide +kernel
theorem D_Ce_coded_86 : decode prog_3_method_2_code 86 = .ok (.ior, 1) := by decide +kernel
theorem D_Ce_coded_87 : decode prog_3_method_2_code 87 = .ok (.istore_n 1, 1) := by decide +kernel
theorem D_Ce_coded_88 : decode prog_3_method_2_code 88 = .ok (.iload_n 3, 1) := by decide +kernel
theorem D_Ce_coded_89 : decode prog_3_method_2_code 89 = .ok (.iconst 1, 1) := by decide +kernel
theorem D_Ce_coded_90 : decode prog_3_method_2_code 90 = .ok (.ixor, 1) := by decide +kernel
theorem D_Ce_coded_91 : decode prog_3_method_2_code 91 = .ok (.istore_n 3, 1) := by decide +kernel
theorem D_Ce_coded_92 : decode prog_3_method_2_code 92 = .ok (.iinc 4 1, 3) := by decide +kernel
theorem D_Ce_coded_95 : decode prog_3_method_2_code 95 = .ok (.goto (-34), 3) := by decide +kernel
theorem D_Ce_coded_98 : decode prog_3_method_2_code 98 = .ok (.iload_n 1, 1) := by decide +kernel
theorem D_Ce_coded_99 : decode prog_3_method_2_code 99 = .ok (.iload_n 3, 1) := by decide +kernel
theorem D_Ce_coded_100 : decode prog_3_method_2_code 100 = .ok (.ior, 1) := by decide +kernel
theorem D_Ce_coded_101 : decode prog_3_method_2_code 101 = .ok (.ireturn, 1) := by decide +kernel
def j_Ce_coded_52 (k1 : gM → Int → Int → Int → gO) (rec : gM → Int → Int → Int → Int → gO) (σ : gM) (p0 v1 v2 v3 v4 : Int) : gO :=
  ga (v4 + 1) fun a1 =>
  rec σ v1 v2 v3 a1
set_option maxHeartbeats 4000000 in
theorem wj_Ce_coded_52 {X : gX} (C : gC gctC prog_3_method_2_code kR1 5 0 0 (some .int) X) {p0 : Int} {k1 : gM → Int → Int → Int → gO} (hk1 : ∀ (σ : gM) (a0 a1 a2 : Int), GG gctC X 58 [(1, .inl a0), (2, .inl a1), (3, .inl a2)] [] σ (k1 σ a0 a1 a2)) {rec : gM → Int → Int → Int → Int → gO} (hrec : ∀ (σ : gM) (a0 a1 a2 a3 : Int), GG gctC X 9 [(0, .inl p0), (1, .inl a0), (2, .inl a1), (3, .inl a2), (4, .inl a3)] [] σ (rec σ a0 a1 a2 a3)) (σ : gM) (v1 v2 v3 v4 : Int) : GG gctC X 52 [(0, .inl p0), (1, .inl v1), (2, .inl v2), (3, .inl v3), (4, .inl v4)] [] σ (j_Ce_coded_52 k1 rec σ p0 v1 v2 v3 v4) := by
  unfold j_Ce_coded_52
  refine g_iinc (t := 4) (L' := fun z => [(4, .inl z), (0, .inl p0), (1, .inl v1), (2, .inl v2), (3, .inl v3)]) C D_Ce_coded_52 rfl (by decide) (fun _ => rfl) (fun a1 => ?_)
  refine g_goto (tgt := 9) C D_Ce_coded_55 (by decide) ?_
  refine g_sub [1, 2, 3, 4, 0] rfl ?_
  exact hrec _ _ _ _ _
def l_Ce_coded_9 (k1 : gM → Int → Int → Int → gO) (p0 : Int) (rec : gM → Int → Int → Int → Int → gO) (σ : gM) (v1 v2 v3 v4 : Int) : gO :=
  if v4 < 8 then
  (if (gAnd (gShr p0 v4) 1) = 0 then
  (j_Ce_coded_52 k1 rec σ p0 v1 v2 v3 v4)
  else
  (gi v4 8 <|
  gv (gOr v1 (gShl 1 (gVP v4))) fun a1 =>
  gi v4 8 <|
  gv (gXor v2 (gVP v4)) fun a2 =>
  gv (gXor v3 1) fun a3 =>
  j_Ce_coded_52 k1 rec σ p0 a1 a2 a3 v4))
  else
  (k1 σ v1 v2 v3)
set_option maxHeartbeats 4000000 in
theorem wl_Ce_coded_9 {X : gX} (C : gC gctC prog_3_method_2_code kR1 5 0 0 (some .int) X) {p0 : Int} {k1 : gM → Int → Int → Int → gO} (hk1 : ∀ (σ : gM) (a0 a1 a2 : Int), GG gctC X 58 [(1, .inl a0), (2, .inl a1), (3, .inl a2)] [] σ (k1 σ a0 a1 a2)) : ∀ (n : Nat) (σ : gM) (a0 a1 a2 a3 : Int), GG gctC X 9 [(0, .inl p0), (1, .inl a0), (2, .inl a1), (3, .inl a2), (4, .inl a3)] [] σ (gl4 (l_Ce_coded_9 k1 p0) n σ a0 a1 a2 a3) := by
  refine gl4_run (P := fun σ a0 a1 a2 a3 o => GG gctC X 9 [(0, .inl p0), (1, .inl a0), (2, .inl a1), (3, .inl a2), (4, .inl a3)] [] σ o) (fun _ _ _ _ _ => g_none) (fun rec hrec σ v1 v2 v3 v4 => ?_)
  unfold l_Ce_coded_9
  refine g_iload C D_Ce_coded_9 4 rfl ?_
  refine g_bipush C D_Ce_coded_11 (by decide) ⟨by decide, by decide⟩ ?_
  refine g_icmp_ge (tgt := 58) C D_Ce_coded_13 (by decide) ?_ ?_
  · refine g_sub [1, 2, 3] rfl ?_
    exact hk1 _ _ _ _
  · refine g_iload_n C D_Ce_coded_16 rfl 0 rfl ?_
    refine g_iload C D_Ce_coded_17 4 rfl ?_
    refine g_ishr C D_Ce_coded_19 ?_
    refine g_iconst C D_Ce_coded_20 ⟨by decide, by decide⟩ ?_
    refine g_iand C D_Ce_coded_21 ?_
    refine g_if_ne (tgt := 28) C D_Ce_coded_22 (by decide) ?_ ?_
    · refine g_iload_n C D_Ce_coded_28 rfl 1 rfl ?_
      refine g_iconst C D_Ce_coded_29 ⟨by decide, by decide⟩ ?_
      refine g_getsV C wf_1_25 D_Ce_coded_30 ?_
      refine g_iload C D_Ce_coded_33 4 rfl ?_
      refine g_ialdV C D_Ce_coded_35 ?_
      refine g_ishl C D_Ce_coded_36 ?_
      refine g_ior C D_Ce_coded_37 ?_
      refine g_let C (fun a1 => ?_)
      refine g_istore_n (L' := [(1, .inl a1), (0, .inl p0), (2, .inl v2), (3, .inl v3), (4, .inl v4)]) C D_Ce_coded_38 rfl (by decide) rfl ?_
      refine g_iload_n C D_Ce_coded_39 rfl 2 rfl ?_
      refine g_getsV C wf_1_25 D_Ce_coded_40 ?_
      refine g_iload C D_Ce_coded_43 4 rfl ?_
      refine g_ialdV C D_Ce_coded_45 ?_
      refine g_ixor C D_Ce_coded_46 ?_
      refine g_let C (fun a2 => ?_)
      refine g_istore_n (L' := [(2, .inl a2), (1, .inl a1), (0, .inl p0), (3, .inl v3), (4, .inl v4)]) C D_Ce_coded_47 rfl (by decide) rfl ?_
      refine g_iload_n C D_Ce_coded_48 rfl 3 rfl ?_
      refine g_iconst C D_Ce_coded_49 ⟨by decide, by decide⟩ ?_
      refine g_ixor C D_Ce_coded_50 ?_
      refine g_let C (fun a3 => ?_)
      refine g_istore_n (L' := [(3, .inl a3), (2, .inl a2), (1, .inl a1), (0, .inl p0), (4, .inl v4)]) C D_Ce_coded_51 rfl (by decide) rfl ?_
      refine g_sub [3, 2, 1, 0, 4] rfl ?_
      exact wj_Ce_coded_52 C hk1 hrec _ _ _ _ _
    · refine g_goto (tgt := 52) C D_Ce_coded_25 (by decide) ?_
      exact wj_Ce_coded_52 C hk1 hrec _ _ _ _ _
def j_Ce_coded_92 (rec : gM → Int → Int → Int → gO) (σ : gM) (v1 p2 v3 v4 : Int) : gO :=
  ga (v4 + 1) fun a1 =>
  rec σ v1 v3 a1
set_option maxHeartbeats 4000000 in
theorem wj_Ce_coded_92 {X : gX} (C : gC gctC prog_3_method_2_code kR1 5 0 0 (some .int) X) {p2 : Int} {rec : gM → Int → Int → Int → gO} (hrec : ∀ (σ : gM) (a0 a1 a2 : Int), GG gctC X 61 [(1, .inl a0), (2, .inl p2), (3, .inl a1), (4, .inl a2)] [] σ (rec σ a0 a1 a2)) (σ : gM) (v1 v3 v4 : Int) : GG gctC X 92 [(1, .inl v1), (2, .inl p2), (3, .inl v3), (4, .inl v4)] [] σ (j_Ce_coded_92 rec σ v1 p2 v3 v4) := by
  unfold j_Ce_coded_92
  refine g_iinc (t := 3) (L' := fun z => [(4, .inl z), (1, .inl v1), (2, .inl p2), (3, .inl v3)]) C D_Ce_coded_92 rfl (by decide) (fun _ => rfl) (fun a1 => ?_)
  refine g_goto (tgt := 61) C D_Ce_coded_95 (by decide) ?_
  refine g_sub [1, 2, 3, 0] rfl ?_
  exact hrec _ _ _ _
def l_Ce_coded_61 (p2 : Int) (rec : gM → Int → Int → Int → gO) (σ : gM) (v1 v3 v4 : Int) : gO :=
  if v4 < 4 then
  (if (gAnd (gShr p2 v4) 1) = 0 then
  (j_Ce_coded_92 rec σ v1 p2 v3 v4)
  else
  (gv (gOr v1 (gShl 1 (gShl 1 v4))) fun a1 =>
  gv (gXor v3 1) fun a2 =>
  j_Ce_coded_92 rec σ a1 p2 a2 v4))
  else
  (some (σ, (gOr v1 v3)))
set_option maxHeartbeats 4000000 in
theorem wl_Ce_coded_61 {X : gX} (C : gC gctC prog_3_method_2_code kR1 5 0 0 (some .int) X) {p2 : Int} : ∀ (n : Nat) (σ : gM) (a0 a1 a2 : Int), GG gctC X 61 [(1, .inl a0), (2, .inl p2), (3, .inl a1), (4, .inl a2)] [] σ (gl3 (l_Ce_coded_61 p2) n σ a0 a1 a2) := by
  refine gl3_run (P := fun σ a0 a1 a2 o => GG gctC X 61 [(1, .inl a0), (2, .inl p2), (3, .inl a1), (4, .inl a2)] [] σ o) (fun _ _ _ _ => g_none) (fun rec hrec σ v1 v3 v4 => ?_)
  unfold l_Ce_coded_61
  refine g_iload C D_Ce_coded_61 3 rfl ?_
  refine g_iconst C D_Ce_coded_63 ⟨by decide, by decide⟩ ?_
  refine g_icmp_ge (tgt := 98) C D_Ce_coded_64 (by decide) ?_ ?_
  · refine g_iload_n C D_Ce_coded_98 rfl 0 rfl ?_
    refine g_iload_n C D_Ce_coded_99 rfl 2 rfl ?_
    refine g_ior C D_Ce_coded_100 ?_
    exact g_iret C D_Ce_coded_101
  · refine g_iload_n C D_Ce_coded_67 rfl 1 rfl ?_
    refine g_iload C D_Ce_coded_68 3 rfl ?_
    refine g_ishr C D_Ce_coded_70 ?_
    refine g_iconst C D_Ce_coded_71 ⟨by decide, by decide⟩ ?_
    refine g_iand C D_Ce_coded_72 ?_
    refine g_if_ne (tgt := 79) C D_Ce_coded_73 (by decide) ?_ ?_
    · refine g_iload_n C D_Ce_coded_79 rfl 0 rfl ?_
      refine g_iconst C D_Ce_coded_80 ⟨by decide, by decide⟩ ?_
      refine g_iconst C D_Ce_coded_81 ⟨by decide, by decide⟩ ?_
      refine g_iload C D_Ce_coded_82 3 rfl ?_
      refine g_ishl C D_Ce_coded_84 ?_
      refine g_ishl C D_Ce_coded_85 ?_
      refine g_ior C D_Ce_coded_86 ?_
      refine g_let C (fun a1 => ?_)
      refine g_istore_n (L' := [(1, .inl a1), (2, .inl p2), (3, .inl v3), (4, .inl v4)]) C D_Ce_coded_87 rfl (by decide) rfl ?_
      refine g_iload_n C D_Ce_coded_88 rfl 2 rfl ?_
      refine g_iconst C D_Ce_coded_89 ⟨by decide, by decide⟩ ?_
      refine g_ixor C D_Ce_coded_90 ?_
      refine g_let C (fun a2 => ?_)
      refine g_istore_n (L' := [(3, .inl a2), (1, .inl a1), (2, .inl p2), (4, .inl v4)]) C D_Ce_coded_91 rfl (by decide) rfl ?_
      refine g_sub [1, 2, 0, 3] rfl ?_
      exact wj_Ce_coded_92 C hrec _ _ _ _
    · refine g_goto (tgt := 92) C D_Ce_coded_76 (by decide) ?_
      exact wj_Ce_coded_92 C hrec _ _ _ _
def F_Ce_coded (σ : gM) (v0 : Int) : gO :=
  gl4 (l_Ce_coded_9 (fun s4 b1 b2 b3 => gl3 (l_Ce_coded_61 b2) 200 s4 b1 b3 0) v0) 200 σ 0 0 0 0
set_option maxHeartbeats 4000000 in
theorem w_Ce_coded {X : gX} (C : gC gctC prog_3_method_2_code kR1 5 0 0 (some .int) X) (σ : gM) (v0 : Int) : GG gctC X 0 [(0, .inl v0)] [] σ (F_Ce_coded σ v0) := by
  unfold F_Ce_coded
  refine g_iconst C D_Ce_coded_0 ⟨by decide, by decide⟩ ?_
  refine g_istore_n (L' := [(1, .inl 0), (0, .inl v0)]) C D_Ce_coded_1 rfl (by decide) rfl ?_
  refine g_iconst C D_Ce_coded_2 ⟨by decide, by decide⟩ ?_
  refine g_istore_n (L' := [(2, .inl 0), (1, .inl 0), (0, .inl v0)]) C D_Ce_coded_3 rfl (by decide) rfl ?_
  refine g_iconst C D_Ce_coded_4 ⟨by decide, by decide⟩ ?_
  refine g_istore_n (L' := [(3, .inl 0), (2, .inl 0), (1, .inl 0), (0, .inl v0)]) C D_Ce_coded_5 rfl (by decide) rfl ?_
  refine g_iconst C D_Ce_coded_6 ⟨by decide, by decide⟩ ?_
  refine g_istore (L' := [(4, .inl 0), (3, .inl 0), (2, .inl 0), (1, .inl 0), (0, .inl v0)]) C D_Ce_coded_7 (by decide) rfl ?_
  refine g_sub [4, 3, 2, 1, 0] rfl ?_
  exact wl_Ce_coded_9 C (fun s4 b1 b2 b3 => by
      refine g_iconst C D_Ce_coded_58 ⟨by decide, by decide⟩ ?_
      refine g_istore (L' := [(4, .inl 0), (1, .inl b1), (2, .inl b2), (3, .inl b3)]) C D_Ce_coded_59 (by decide) rfl ?_
      refine g_sub [1, 2, 3, 0] rfl ?_
      exact wl_Ce_coded_61 C 200 _ _ _ _) 200 _ _ _ _ _
theorem c_Ce_coded {σ : gM} {v0 : Int} {r : gR} (ho : F_Ce_coded σ v0 = some r) (hok : gOk [.inl v0]) (hin : gIn gctC σ) : gCt gctC Y_Ce_coded prog_3_method_2_code 5 (some .int) 0 0 [.inl v0] σ r := g_entry (by decide) rfl (Nat.le_of_ble_eq_true rfl) ho hok hin (fun X C => w_Ce_coded C σ v0)
theorem D_Ca_store_0 : decode prog_2_method_10_code 0 = .ok (.iload_n 1, 1) := by decide +kernel
theorem D_Ca_store_1 : decode prog_2_method_10_code 1 = .ok (.bipush 64, 2) := by decide +kernel
theorem D_Ca_store_3 : decode prog_2_method_10_code 3 = .ok (.irem, 1) := by decide +kernel
theorem D_Ca_store_4 : decode prog_2_method_10_code 4 = .ok (.istore_n 3, 1) := by decide +kernel
theorem D_Ca_store_5 : decode prog_2_method_10_code 5 = .ok (.iload_n 2, 1) := by decide +kernel
theorem D_Ca_store_6 : decode prog_2_method_10_code 6 = .ok (.iconst (-1), 1) := by decide +kernel
theorem D_Ca_store_7 : decode prog_2_method_10_code 7 = .ok (.if_icmp .eq 28, 3) := by decide +kernel
theorem D_Ca_store_10 : decode prog_2_method_10_code 10 = .ok (.aload_n 0, 1) := by decide +kernel
theorem D_Ca_store_11 : decode prog_2_method_10_code 11 = .ok (.getfield 41, 3) := by decide +kernel
theorem D_Ca_store_14 : decode prog_2_method_10_code 14 = .ok (.iconst 1, 1) := by decide +kernel
theorem D_Ca_store_15 : decode prog_2_method_10_code 15 = .ok (.aload_n 0, 1) := by decide +kernel
theorem D_Ca_store_16 : decode prog_2_method_10_code 16 = .ok (.getfield 45, 3) := by decide +kernel
theorem D_Ca_store_19 : decode prog_2_method_10_code 19 = .ok (.iload_n 3, 1) := by decide +kernel
theorem D_Ca_store_20 : decode prog_2_method_10_code 20 = .ok (.invokevirtual 79, 3) := by decide +kernel
theorem D_Ca_store_23 : decode prog_2_method_10_code 23 = .ok (.invokevirtual 62, 3) := by decide +kernel
theorem D_Ca_store_26 : decode prog_2_method_10_code 26 = .ok (.aload_n 0, 1) := by decide +kernel
theorem D_Ca_store_27 : decode prog_2_method_10_code 27 = .ok (.getfield 41, 3) := by decide +kernel
theorem D_Ca_store_30 : decode prog_2_method_10_code 30 = .ok (.iload_n 2, 1) := by decide +kernel
theorem D_Ca_store_31 : decode prog_2_method_10_code 31 = .ok (.iconst 2, 1) := by decide +kernel
theorem D_Ca_store_32 : decode prog_2_method_10_code 32 = .ok (.invokevirtual 62, 3) := by decide +kernel
theorem D_Ca_store_35 : decode prog_2_method_10_code 35 = .ok (.iconst 0, 1) := by decide +kernel
theorem D_Ca_store_36 : decode prog_2_method_10_code 36 = .ok (.istore 4, 2) := by decide +kernel
theorem D_Ca_store_38 : decode prog_2_method_10_code 38 = .ok (.iload 4, 2) := by decide +kernel
theorem D_Ca_store_40 : decode prog_2_method_10_code 40 = .ok (.bipush 8, 2) := by decide +kernel
theorem D_Ca_store_42 : decode prog_2_method_10_code 42 = .ok (.if_icmp .ge 50, 3) := by decide +kernel
theorem D_Ca_store_45 : decode prog_2_method_10_code 45 = .ok (.aload_n 0, 1) := by decide +kernel
theorem D_Ca_store_46 : decode prog_2_method_10_code 46 = .ok (.getfield 15, 3) := by decide +kernel
theorem D_Ca_store_49 : decode prog_2_method_10_code 49 = .ok (.iload_n 1, 1) := by decide +kernel
theorem D_Ca_store_50 : decode prog_2_method_10_code 50 = .ok (.bipush 8, 2) := by decide +kernel
theorem D_Ca_store_52 : decode prog_2_method_10_code 52 = .ok (.imul, 1) := by decide +kernel
theorem D_Ca_store_53 : decode prog_2_method_10_code 53 = .ok (.iload 4, 2) := by decide +kernel
theorem D_Ca_store_55 : decode prog_2_method_10_code 55 = .ok (.iadd, 1) := by decide +kernel
theorem D_Ca_store_56 : decode prog_2_method_10_code 56 = .ok (.iaload, 1) := by decide +kernel
theorem D_Ca_store_57 : decode prog_2_method_10_code 57 = .ok (.istore 5, 2) := by decide +kernel
theorem D_Ca_store_59 : decode prog_2_method_10_code 59 = .ok (.iload 5, 2) := by decide +kernel
theorem D_Ca_store_61 : decode prog_2_method_10_code 61 = .ok (.bipush (-5), 2) := by decide +kernel
theorem D_Ca_store_63 : decode prog_2_method_10_code 63 = .ok (.if_icmp .eq 23, 3) := by decide +kernel
theorem D_Ca_store_66 : decode prog_2_method_10_code 66 = .ok (.aload_n 0, 1) := by decide +kernel
theorem D_Ca_store_67 : decode prog_2_method_10_code 67 = .ok (.getfield 45, 3) := by decide +kernel
theorem D_Ca_store_70 : decode prog_2_method_10_code 70 = .ok (.getfield 84, 3) := by decide +kernel
theorem D_Ca_store_73 : decode prog_2_method_10_code 73 = .ok (.iload_n 3, 1) := by decide +kernel
theorem D_Ca_store_74 : decode prog_2_method_10_code 74 = .ok (.bipush 8, 2) := by decide +kernel
theorem D_Ca_store_76 : decode prog_2_method_10_code 76 = .ok (.imul, 1) := by decide +kernel
theorem D_Ca_store_77 : decode prog_2_method_10_code 77 = .ok (.iload 4, 2) := by decide +kernel
theorem D_Ca_store_79 : decode prog_2_method_10_code 79 = .ok (.iadd, 1) := by decide +kernel
theorem D_Ca_store_80 : decode prog_2_method_10_code 80 = .ok (.iload 5, 2) := by decide +kernel
theorem D_Ca_store_82 : decode prog_2_method_10_code 82 = .ok (.invokestatic 87, 3) := by decide +kernel
theorem D_Ca_store_85 : decode prog_2_method_10_code 85 = .ok (.iastore, 1) := by decide +kernel
theorem D_Ca_store_86 : decode prog_2_method_10_code 86 = .ok (.iinc 4 1, 3) := by decide +kernel
theorem D_Ca_store_89 : decode prog_2_method_10_code 89 = .ok (.goto (-51), 3) := by decide +kernel
theorem D_Ca_store_92 : decode prog_2_method_10_code 92 = .ok (.aload_n 0, 1) := by decide +kernel
theorem D_Ca_store_93 : decode prog_2_method_10_code 93 = .ok (.getfield 9, 3) := by decide +kernel
theorem D_Ca_store_96 : decode prog_2_method_10_code 96 = .ok (.iload_n 1, 1) := by decide +kernel
theorem D_Ca_store_97 : decode prog_2_method_10_code 97 = .ok (.iconst 1, 1) := by decide +kernel
theorem D_Ca_store_98 : decode prog_2_method_10_code 98 = .ok (.iastore, 1) := by decide +kernel
theorem D_Ca_store_99 : decode prog_2_method_10_code 99 = .ok (.return_, 1) := by decide +kernel
def j_Ca_store_86 (rec : gM → Int → gO) (σ : gM) (p1 p3 v4 : Int) : gO :=
  ga (v4 + 1) fun a1 =>
  rec σ a1
set_option maxHeartbeats 4000000 in
theorem wj_Ca_store_86 {X : gX} (C : gC gctC prog_2_method_10_code kR0 6 1 25 (none) X) {p1 p3 : Int} {rec : gM → Int → gO} (hrec : ∀ (σ : gM) (a0 : Int), GG gctC X 38 [(0, .inr (.inr 9)), (1, .inl p1), (3, .inl p3), (4, .inl a0)] [] σ (rec σ a0)) (σ : gM) (v4 : Int) : GG gctC X 86 [(0, .inr (.inr 9)), (1, .inl p1), (3, .inl p3), (4, .inl v4)] [] σ (j_Ca_store_86 rec σ p1 p3 v4) := by
  unfold j_Ca_store_86
  refine g_iinc (t := 3) (L' := fun z => [(4, .inl z), (0, .inr (.inr 9)), (1, .inl p1), (3, .inl p3)]) C D_Ca_store_86 rfl (by decide) (fun _ => rfl) (fun a1 => ?_)
  refine g_goto (tgt := 38) C D_Ca_store_89 (by decide) ?_
  refine g_sub [1, 2, 3, 0] rfl ?_
  exact hrec _ _
def l_Ca_store_38 (p1 p3 : Int) (rec : gM → Int → gO) (σ : gM) (v4 : Int) : gO :=
  if v4 < 8 then
  (ga (p1 * 8) fun a2 =>
  ga (a2 + v4) fun a3 =>
  gi a3 1024 <|
  gv (σ 11 a3) fun a4 =>
  if a4 = (-5) then
  (j_Ca_store_86 rec σ p1 p3 v4)
  else
  (ga (p3 * 8) fun a5 =>
  ga (a5 + v4) fun a6 =>
  gk (F_Ce_coded σ a4) fun s7 a8 =>
  gw s7 6 512 a6 a8 fun s9 =>
  j_Ca_store_86 rec s9 p1 p3 v4))
  else
  (gw σ 10 128 p1 1 fun s1 =>
  some (s1, 0))
set_option maxHeartbeats 4000000 in
theorem wl_Ca_store_38 {X : gX} (C : gC gctC prog_2_method_10_code kR0 6 1 25 (none) X) {p1 p3 : Int} : ∀ (n : Nat) (σ : gM) (a0 : Int), GG gctC X 38 [(0, .inr (.inr 9)), (1, .inl p1), (3, .inl p3), (4, .inl a0)] [] σ (gl1 (l_Ca_store_38 p1 p3) n σ a0) := by
  refine gl1_run (P := fun σ a0 o => GG gctC X 38 [(0, .inr (.inr 9)), (1, .inl p1), (3, .inl p3), (4, .inl a0)] [] σ o) (fun _ _ => g_none) (fun rec hrec σ v4 => ?_)
  unfold l_Ca_store_38
  refine g_iload C D_Ca_store_38 3 rfl ?_
  refine g_bipush C D_Ca_store_40 (by decide) ⟨by decide, by decide⟩ ?_
  refine g_icmp_ge (tgt := 92) C D_Ca_store_42 (by decide) ?_ ?_
  · refine g_aload_n C D_Ca_store_92 rfl 0 rfl ?_
    refine g_getr (ci := 0) C 0 rfl kI0 rfl (by decide) rfl rfl wf_0_9 D_Ca_store_93 ?_
    refine g_iload_n C D_Ca_store_96 rfl 1 rfl ?_
    refine g_iconst C D_Ca_store_97 ⟨by decide, by decide⟩ ?_
    refine g_iast C rfl rfl D_Ca_store_98 (fun s1 => ?_)
    exact g_vret C D_Ca_store_99
  · refine g_aload_n C D_Ca_store_45 rfl 0 rfl ?_
    refine g_getr (ci := 0) C 1 rfl kI0 rfl (by decide) rfl rfl wf_0_15 D_Ca_store_46 ?_
    refine g_iload_n C D_Ca_store_49 rfl 1 rfl ?_
    refine g_bipush C D_Ca_store_50 (by decide) ⟨by decide, by decide⟩ ?_
    refine g_imul C D_Ca_store_52 (fun a2 => ?_)
    refine g_iload C D_Ca_store_53 3 rfl ?_
    refine g_iadd C D_Ca_store_55 (fun a3 => ?_)
    refine g_iald C rfl rfl rfl D_Ca_store_56 ?_
    refine g_let C (fun a4 => ?_)
    refine g_istore (L' := [(5, .inl a4), (0, .inr (.inr 9)), (1, .inl p1), (3, .inl p3), (4, .inl v4)]) C D_Ca_store_57 (by decide) rfl ?_
    refine g_iload C D_Ca_store_59 0 rfl ?_
    refine g_bipush C D_Ca_store_61 (by decide) ⟨by decide, by decide⟩ ?_
    refine g_icmp_eq (tgt := 86) C D_Ca_store_63 (by decide) ?_ ?_
    · refine g_sub [1, 2, 3, 4] rfl ?_
      exact wj_Ca_store_86 C hrec _ _
    · refine g_aload_n C D_Ca_store_66 rfl 1 rfl ?_
      refine g_getr (ci := 0) C 11 rfl kI0 rfl (by decide) rfl rfl wf_0_45 D_Ca_store_67 ?_
      refine g_getr (ci := 1) C 0 rfl kI1 rfl (by decide) rfl rfl wf_0_84 D_Ca_store_70 ?_
      refine g_iload_n C D_Ca_store_73 rfl 3 rfl ?_
      refine g_bipush C D_Ca_store_74 (by decide) ⟨by decide, by decide⟩ ?_
      refine g_imul C D_Ca_store_76 (fun a5 => ?_)
      refine g_iload C D_Ca_store_77 4 rfl ?_
      refine g_iadd C D_Ca_store_79 (fun a6 => ?_)
      refine g_iload C D_Ca_store_80 0 rfl ?_
      refine g_callSi C [.inl a4] [.inl a6, .inr (.inr 6)] (Or.inl rfl) rfl (fun _ h1 h2 h3 => c_Ce_coded h1 h2 h3) wc_0_87 (by decide) (Nat.le_of_ble_eq_true rfl) D_Ca_store_82 (fun s7 a8 => ?_)
      refine g_iast C rfl rfl D_Ca_store_85 (fun s9 => ?_)
      refine g_sub [1, 2, 3, 4] rfl ?_
      exact wj_Ca_store_86 C hrec _ _
def j_Ca_store_35 (σ : gM) (v1 v3 : Int) : gO :=
  gl1 (l_Ca_store_38 v1 v3) 200 σ 0
set_option maxHeartbeats 4000000 in
theorem wj_Ca_store_35 {X : gX} (C : gC gctC prog_2_method_10_code kR0 6 1 25 (none) X) (σ : gM) (v1 v3 : Int) : GG gctC X 35 [(0, .inr (.inr 9)), (1, .inl v1), (3, .inl v3)] [] σ (j_Ca_store_35 σ v1 v3) := by
  unfold j_Ca_store_35
  refine g_iconst C D_Ca_store_35 ⟨by decide, by decide⟩ ?_
  refine g_istore (L' := [(4, .inl 0), (0, .inr (.inr 9)), (1, .inl v1), (3, .inl v3)]) C D_Ca_store_36 (by decide) rfl ?_
  refine g_sub [1, 2, 3, 0] rfl ?_
  exact wl_Ca_store_38 C 200 _ _
def F_Ca_store (σ : gM) (v1 v2 : Int) : gO :=
  gd v1 64 <|
  gv (v1 % 64) fun a1 =>
  if v2 = (-1) then
  (j_Ca_store_35 σ v1 a1)
  else
  (gk (F_Ce_openFor σ a1) fun s2 a3 =>
  gk (F_Le_spend s2 1 a3) fun s4 _ =>
  gk (F_Le_spend s4 v2 2) fun s5 _ =>
  j_Ca_store_35 s5 v1 a1)
set_option maxHeartbeats 4000000 in
theorem w_Ca_store {X : gX} (C : gC gctC prog_2_method_10_code kR0 6 1 25 (none) X) (σ : gM) (v1 v2 : Int) : GG gctC X 0 [(0, .inr (.inr 9)), (1, .inl v1), (2, .inl v2)] [] σ (F_Ca_store σ v1 v2) := by
  unfold F_Ca_store
  refine g_iload_n C D_Ca_store_0 rfl 1 rfl ?_
  refine g_bipush C D_Ca_store_1 (by decide) ⟨by decide, by decide⟩ ?_
  refine g_irem C D_Ca_store_3 ?_
  refine g_let C (fun a1 => ?_)
  refine g_istore_n (L' := [(3, .inl a1), (0, .inr (.inr 9)), (1, .inl v1), (2, .inl v2)]) C D_Ca_store_4 rfl (by decide) rfl ?_
  refine g_iload_n C D_Ca_store_5 rfl 3 rfl ?_
  refine g_iconst C D_Ca_store_6 ⟨by decide, by decide⟩ ?_
  refine g_icmp_eq (tgt := 35) C D_Ca_store_7 (by decide) ?_ ?_
  · refine g_sub [1, 2, 0] rfl ?_
    exact wj_Ca_store_35 C _ _ _
  · refine g_aload_n C D_Ca_store_10 rfl 1 rfl ?_
    refine g_getr (ci := 0) C 10 rfl kI0 rfl (by decide) rfl rfl wf_0_41 D_Ca_store_11 ?_
    refine g_iconst C D_Ca_store_14 ⟨by decide, by decide⟩ ?_
    refine g_aload_n C D_Ca_store_15 rfl 1 rfl ?_
    refine g_getr (ci := 0) C 11 rfl kI0 rfl (by decide) rfl rfl wf_0_45 D_Ca_store_16 ?_
    refine g_iload_n C D_Ca_store_19 rfl 0 rfl ?_
    refine g_callVi (ci := 1) C [.inl a1] [.inl 1, .inr (.inr 2)] (Or.inl rfl) rfl (fun _ h1 h2 h3 => c_Ce_openFor h1 h2 h3) rfl rfl wc_0_79 (by decide) (Nat.le_of_ble_eq_true rfl) D_Ca_store_20 (fun s2 a3 => ?_)
    refine g_callVv (ci := 3) C [.inl 1, .inl a3] [] rfl rfl (fun _ h1 h2 h3 => c_Le_spend h1 h2 h3) rfl rfl wc_0_62 (by decide) (Nat.le_of_ble_eq_true rfl) D_Ca_store_23 (fun s4 _ => ?_)
    refine g_aload_n C D_Ca_store_26 rfl 1 rfl ?_
    refine g_getr (ci := 0) C 10 rfl kI0 rfl (by decide) rfl rfl wf_0_41 D_Ca_store_27 ?_
    refine g_iload_n C D_Ca_store_30 rfl 3 rfl ?_
    refine g_iconst C D_Ca_store_31 ⟨by decide, by decide⟩ ?_
    refine g_callVv (ci := 3) C [.inl v2, .inl 2] [] rfl rfl (fun _ h1 h2 h3 => c_Le_spend h1 h2 h3) rfl rfl wc_0_62 (by decide) (Nat.le_of_ble_eq_true rfl) D_Ca_store_32 (fun s5 _ => ?_)
    refine g_sub [1, 2, 0] rfl ?_
    exact wj_Ca_store_35 C _ _ _
theorem c_Ca_store {σ : gM} {v1 v2 : Int} {r : gR} (ho : F_Ca_store σ v1 v2 = some r) (hok : gOk [.inr (.inr 9), .inl v1, .inl v2]) (hin : gIn gctC σ) : gCt gctC Y_Ca_store prog_2_method_10_code 6 (none) 1 25 [.inr (.inr 9), .inl v1, .inl v2] σ r := g_entry (by decide) rfl (Nat.le_of_ble_eq_true rfl) ho hok hin (fun X C => w_Ca_store C σ v1 v2)
theorem D_Ca_miss_0 : decode prog_2_method_4_code 0 = .ok (.iload_n 1, 1) := by decide +kernel
theorem D_Ca_miss_1 : decode prog_2_method_4_code 1 = .ok (.bipush 64, 2) := by decide +kernel
theorem D_Ca_miss_3 : decode prog_2_method_4_code 3 = .ok (.irem, 1) := by decide +kernel
theorem D_Ca_miss_4 : decode prog_2_method_4_code 4 = .ok (.istore_n 2, 1) := by decide +kernel
theorem D_Ca_miss_5 : decode prog_2_method_4_code 5 = .ok (.iload_n 1, 1) := by decide +kernel
theorem D_Ca_miss_6 : decode prog_2_method_4_code 6 = .ok (.invokestatic 75, 3) := by decide +kernel
theorem D_Ca_miss_9 : decode prog_2_method_4_code 9 = .ok (.istore_n 3, 1) := by decide +kernel
theorem D_Ca_miss_10 : decode prog_2_method_4_code 10 = .ok (.aload_n 0, 1) := by decide +kernel
theorem D_Ca_miss_11 : decode prog_2_method_4_code 11 = .ok (.iload_n 1, 1) := by decide +kernel
theorem D_Ca_miss_12 : decode prog_2_method_4_code 12 = .ok (.invokevirtual 90, 3) := by decide +kernel
theorem D_Ca_miss_15 : decode prog_2_method_4_code 15 = .ok (.istore 4, 2) := by decide +kernel
theorem D_Ca_miss_17 : decode prog_2_method_4_code 17 = .ok (.aload_n 0, 1) := by decide +kernel
theorem D_Ca_miss_18 : decode prog_2_method_4_code 18 = .ok (.getfield 41, 3) := by decide +kernel
theorem D_Ca_miss_21 : decode prog_2_method_4_code 21 = .ok (.iconst 1, 1) := by decide +kernel
theorem D_Ca_miss_22 : decode prog_2_method_4_code 22 = .ok (.iconst 1, 1) := by decide +kernel
theorem D_Ca_miss_23 : decode prog_2_method_4_code 23 = .ok (.invokevirtual 52, 3) := by decide +kernel
theorem D_Ca_miss_26 : decode prog_2_method_4_code 26 = .ok (.aload_n 0, 1) := by decide +kernel
theorem D_Ca_miss_27 : decode prog_2_method_4_code 27 = .ok (.getfield 41, 3) := by decide +kernel
theorem D_Ca_miss_30 : decode prog_2_method_4_code 30 = .ok (.iload 4, 2) := by decide +kernel
theorem D_Ca_miss_32 : decode prog_2_method_4_code 32 = .ok (.iconst 1, 1) := by decide +kernel
theorem D_Ca_miss_33 : decode prog_2_method_4_code 33 = .ok (.invokevirtual 52, 3) := by decide +kernel
theorem D_Ca_miss_36 : decode prog_2_method_4_code 36 = .ok (.aload_n 0, 1) := by decide +kernel
theorem D_Ca_miss_37 : decode prog_2_method_4_code 37 = .ok (.getfield 9, 3) := by decide +kernel
theorem D_Ca_miss_40 : decode prog_2_method_4_code 40 = .ok (.iload_n 3, 1) := by decide +kernel
theorem D_Ca_miss_41 : decode prog_2_method_4_code 41 = .ok (.iaload, 1) := by decide +kernel
theorem D_Ca_miss_42 : decode prog_2_method_4_code 42 = .ok (.iconst 2, 1) := by decide +kernel
theorem D_Ca_miss_43 : decode prog_2_method_4_code 43 = .ok (.if_icmp .ne 10, 3) := by decide +kernel
theorem D_Ca_miss_46 : decode prog_2_method_4_code 46 = .ok (.aload_n 0, 1) := by decide +kernel
theorem D_Ca_miss_47 : decode prog_2_method_4_code 47 = .ok (.iload_n 3, 1) := by decide +kernel
theorem D_Ca_miss_48 : decode prog_2_method_4_code 48 = .ok (.iload 4, 2) := by decide +kernel
theorem D_Ca_miss_50 : decode prog_2_method_4_code 50 = .ok (.invokevirtual 93, 3) := by decide +kernel
theorem D_Ca_miss_53 : decode prog_2_method_4_code 53 = .ok (.aload_n 0, 1) := by decide +kernel
theorem D_Ca_miss_54 : decode prog_2_method_4_code 54 = .ok (.iload_n 1, 1) := by decide +kernel
theorem D_Ca_miss_55 : decode prog_2_method_4_code 55 = .ok (.invokevirtual 96, 3) := by decide +kernel
theorem D_Ca_miss_58 : decode prog_2_method_4_code 58 = .ok (.istore 5, 2) := by decide +kernel
theorem D_Ca_miss_60 : decode prog_2_method_4_code 60 = .ok (.iload 5, 2) := by decide +kernel
theorem D_Ca_miss_62 : decode prog_2_method_4_code 62 = .ok (.bipush (-4), 2) := by decide +kernel
theorem D_Ca_miss_64 : decode prog_2_method_4_code 64 = .ok (.if_icmp .eq 30, 3) := by decide +kernel
theorem D_Ca_miss_67 : decode prog_2_method_4_code 67 = .ok (.aload_n 0, 1) := by decide +kernel
theorem D_Ca_miss_68 : decode prog_2_method_4_code 68 = .ok (.getfield 9, 3) := by decide +kernel
theorem D_Ca_miss_71 : decode prog_2_method_4_code 71 = .ok (.iload 5, 2) := by decide +kernel
theorem D_Ca_miss_73 : decode prog_2_method_4_code 73 = .ok (.iaload, 1) := by decide +kernel
theorem D_Ca_miss_74 : decode prog_2_method_4_code 74 = .ok (.iconst 2, 1) := by decide +kernel
theorem D_Ca_miss_75 : decode prog_2_method_4_code 75 = .ok (.if_icmp .ne 11, 3) := by decide +kernel
theorem D_Ca_miss_78 : decode prog_2_method_4_code 78 = .ok (.aload_n 0, 1) := by decide +kernel
theorem D_Ca_miss_79 : decode prog_2_method_4_code 79 = .ok (.iload 5, 2) := by decide +kernel
theorem D_Ca_miss_81 : decode prog_2_method_4_code 81 = .ok (.iload 4, 2) := by decide +kernel
theorem D_Ca_miss_83 : decode prog_2_method_4_code 83 = .ok (.invokevirtual 93, 3) := by decide +kernel
theorem D_Ca_miss_86 : decode prog_2_method_4_code 86 = .ok (.aload_n 0, 1) := by decide +kernel
theorem D_Ca_miss_87 : decode prog_2_method_4_code 87 = .ok (.getfield 9, 3) := by decide +kernel
theorem D_Ca_miss_90 : decode prog_2_method_4_code 90 = .ok (.iload 5, 2) := by decide +kernel
theorem D_Ca_miss_92 : decode prog_2_method_4_code 92 = .ok (.iconst 0, 1) := by decide +kernel
theorem D_Ca_miss_93 : decode prog_2_method_4_code 93 = .ok (.iastore, 1) := by decide +kernel
theorem D_Ca_miss_94 : decode prog_2_method_4_code 94 = .ok (.aload_n 0, 1) := by decide +kernel
theorem D_Ca_miss_95 : decode prog_2_method_4_code 95 = .ok (.getfield 41, 3) := by decide +kernel
theorem D_Ca_miss_98 : decode prog_2_method_4_code 98 = .ok (.iconst 1, 1) := by decide +kernel
theorem D_Ca_miss_99 : decode prog_2_method_4_code 99 = .ok (.aload_n 0, 1) := by decide +kernel
theorem D_Ca_miss_100 : decode prog_2_method_4_code 100 = .ok (.getfield 45, 3) := by decide +kernel
theorem D_Ca_miss_103 : decode prog_2_method_4_code 103 = .ok (.iload_n 2, 1) := by decide +kernel
theorem D_Ca_miss_104 : decode prog_2_method_4_code 104 = .ok (.invokevirtual 79, 3) := by decide +kernel
theorem D_Ca_miss_107 : decode prog_2_method_4_code 107 = .ok (.invokevirtual 62, 3) := by decide +kernel
theorem D_Ca_miss_110 : decode prog_2_method_4_code 110 = .ok (.aload_n 0, 1) := by decide +kernel
theorem D_Ca_miss_111 : decode prog_2_method_4_code 111 = .ok (.getfield 41, 3) := by decide +kernel
theorem D_Ca_miss_114 : decode prog_2_method_4_code 114 = .ok (.iload 4, 2) := by decide +kernel
theorem D_Ca_miss_116 : decode prog_2_method_4_code 116 = .ok (.iconst 2, 1) := by decide +kernel
theorem D_Ca_miss_117 : decode prog_2_method_4_code 117 = .ok (.invokevirtual 62, 3) := by decide +kernel
theorem D_Ca_miss_120 : decode prog_2_method_4_code 120 = .ok (.iconst 0, 1) := by decide +kernel
theorem D_Ca_miss_121 : decode prog_2_method_4_code 121 = .ok (.istore 6, 2) := by decide +kernel
theorem D_Ca_miss_123 : decode prog_2_method_4_code 123 = .ok (.iload 6, 2) := by decide +kernel
theorem D_Ca_miss_125 : decode prog_2_method_4_code 125 = .ok (.bipush 8, 2) := by decide +kernel
theorem D_Ca_miss_127 : decode prog_2_method_4_code 127 = .ok (.if_icmp .ge 35, 3) := by decide +kernel
theorem D_Ca_miss_130 : decode prog_2_method_4_code 130 = .ok (.aload_n 0, 1) := by decide +kernel
theorem D_Ca_miss_131 : decode prog_2_method_4_code 131 = .ok (.getfield 15, 3) := by decide +kernel
theorem D_Ca_miss_134 : decode prog_2_method_4_code 134 = .ok (.iload_n 1, 1) := by decide +kernel
theorem D_Ca_miss_135 : decode prog_2_method_4_code 135 = .ok (.bipush 8, 2) := by decide +kernel
theorem D_Ca_miss_137 : decode prog_2_method_4_code 137 = .ok (.imul, 1) := by decide +kernel
theorem D_Ca_miss_138 : decode prog_2_method_4_code 138 = .ok (.iload 6, 2) := by decide +kernel
theorem D_Ca_miss_140 : decode prog_2_method_4_code 140 = .ok (.iadd, 1) := by decide +kernel
theorem D_Ca_miss_141 : decode prog_2_method_4_code 141 = .ok (.aload_n 0, 1) := by decide +kernel
theorem D_Ca_miss_142 : decode prog_2_method_4_code 142 = .ok (.getfield 45, 3) := by decide +kernel
theorem D_Ca_miss_145 : decode prog_2_method_4_code 145 = .ok (.iload_n 2, 1) := by decide +kernel
theorem D_Ca_miss_146 : decode prog_2_method_4_code 146 = .ok (.bipush 8, 2) := by decide +kernel
theorem D_Ca_miss_148 : decode prog_2_method_4_code 148 = .ok (.imul, 1) := by decide +kernel
theorem D_Ca_miss_149 : decode prog_2_method_4_code 149 = .ok (.iload 6, 2) := by decide +kernel
theorem D_Ca_miss_151 : decode prog_2_method_4_code 151 = .ok (.iadd, 1) := by decide +kernel
theorem D_Ca_miss_152 : decode prog_2_method_4_code 152 = .ok (.invokevirtual 99, 3) := by decide +kernel
theorem D_Ca_miss_155 : decode prog_2_method_4_code 155 = .ok (.iastore, 1) := by decide +kernel
theorem D_Ca_miss_156 : decode prog_2_method_4_code 156 = .ok (.iinc 6 1, 3) := by decide +kernel
theorem D_Ca_miss_159 : decode prog_2_method_4_code 159 = .ok (.goto (-36), 3) := by decide +kernel
theorem D_Ca_miss_162 : decode prog_2_method_4_code 162 = .ok (.aload_n 0, 1) := by decide +kernel
theorem D_Ca_miss_163 : decode prog_2_method_4_code 163 = .ok (.getfield 9, 3) := by decide +kernel
theorem D_Ca_miss_166 : decode prog_2_method_4_code 166 = .ok (.iload_n 1, 1) := by decide +kernel
theorem D_Ca_miss_167 : decode prog_2_method_4_code 167 = .ok (.iconst 1, 1) := by decide +kernel
theorem D_Ca_miss_168 : decode prog_2_method_4_code 168 = .ok (.iastore, 1) := by decide +kernel
theorem D_Ca_miss_169 : decode prog_2_method_4_code 169 = .ok (.aload_n 0, 1) := by decide +kernel
theorem D_Ca_miss_170 : decode prog_2_method_4_code 170 = .ok (.getfield 24, 3) := by decide +kernel
theorem D_Ca_miss_173 : decode prog_2_method_4_code 173 = .ok (.iload_n 1, 1) := by decide +kernel
theorem D_Ca_miss_174 : decode prog_2_method_4_code 174 = .ok (.iconst 0, 1) := by decide +kernel
theorem D_Ca_miss_175 : decode prog_2_method_4_code 175 = .ok (.bastore, 1) := by decide +kernel
theorem D_Ca_miss_176 : decode prog_2_method_4_code 176 = .ok (.aload_n 0, 1) := by decide +kernel
theorem D_Ca_miss_177 : decode prog_2_method_4_code 177 = .ok (.getfield 18, 3) := by decide +kernel
theorem D_Ca_miss_180 : decode prog_2_method_4_code 180 = .ok (.iload_n 1, 1) := by decide +kernel
theorem D_Ca_miss_181 : decode prog_2_method_4_code 181 = .ok (.aload_n 0, 1) := by decide +kernel
theorem D_Ca_miss_182 : decode prog_2_method_4_code 182 = .ok (.getfield 68, 3) := by decide +kernel
theorem D_Ca_miss_185 : decode prog_2_method_4_code 185 = .ok (.iastore, 1) := by decide +kernel
theorem D_Ca_miss_186 : decode prog_2_method_4_code 186 = .ok (.return_, 1) := by decide +kernel
def l_Ca_miss_123 (k1 : gM → gO) (p1 p2 : Int) (rec : gM → Int → gO) (σ : gM) (v6 : Int) : gO :=
  if v6 < 8 then
  (ga (p1 * 8) fun a1 =>
  ga (a1 + v6) fun a2 =>
  ga (p2 * 8) fun a3 =>
  ga (a3 + v6) fun a4 =>
  gk (F_Ce_read σ a4) fun s5 a6 =>
  gw s5 11 1024 a2 a6 fun s7 =>
  ga (v6 + 1) fun a8 =>
  rec s7 a8)
  else
  (k1 σ)
set_option maxHeartbeats 4000000 in
theorem wl_Ca_miss_123 {X : gX} (C : gC gctC prog_2_method_4_code kR0 7 2 50 (none) X) {p1 p2 : Int} {k1 : gM → gO} (hk1 : ∀ (σ : gM), GG gctC X 162 [(0, .inr (.inr 9)), (1, .inl p1)] [] σ (k1 σ)) : ∀ (n : Nat) (σ : gM) (a0 : Int), GG gctC X 123 [(0, .inr (.inr 9)), (1, .inl p1), (2, .inl p2), (6, .inl a0)] [] σ (gl1 (l_Ca_miss_123 k1 p1 p2) n σ a0) := by
  refine gl1_run (P := fun σ a0 o => GG gctC X 123 [(0, .inr (.inr 9)), (1, .inl p1), (2, .inl p2), (6, .inl a0)] [] σ o) (fun _ _ => g_none) (fun rec hrec σ v6 => ?_)
  unfold l_Ca_miss_123
  refine g_iload C D_Ca_miss_123 3 rfl ?_
  refine g_bipush C D_Ca_miss_125 (by decide) ⟨by decide, by decide⟩ ?_
  refine g_icmp_ge (tgt := 162) C D_Ca_miss_127 (by decide) ?_ ?_
  · refine g_sub [0, 1] rfl ?_
    exact hk1 _
  · refine g_aload_n C D_Ca_miss_130 rfl 0 rfl ?_
    refine g_getr (ci := 0) C 1 rfl kI0 rfl (by decide) rfl rfl wf_0_15 D_Ca_miss_131 ?_
    refine g_iload_n C D_Ca_miss_134 rfl 1 rfl ?_
    refine g_bipush C D_Ca_miss_135 (by decide) ⟨by decide, by decide⟩ ?_
    refine g_imul C D_Ca_miss_137 (fun a1 => ?_)
    refine g_iload C D_Ca_miss_138 3 rfl ?_
    refine g_iadd C D_Ca_miss_140 (fun a2 => ?_)
    refine g_aload_n C D_Ca_miss_141 rfl 0 rfl ?_
    refine g_getr (ci := 0) C 11 rfl kI0 rfl (by decide) rfl rfl wf_0_45 D_Ca_miss_142 ?_
    refine g_iload_n C D_Ca_miss_145 rfl 2 rfl ?_
    refine g_bipush C D_Ca_miss_146 (by decide) ⟨by decide, by decide⟩ ?_
    refine g_imul C D_Ca_miss_148 (fun a3 => ?_)
    refine g_iload C D_Ca_miss_149 3 rfl ?_
    refine g_iadd C D_Ca_miss_151 (fun a4 => ?_)
    refine g_callVi (ci := 1) C [.inl a4] [.inl a2, .inr (.inr 11)] (Or.inl rfl) rfl (fun _ h1 h2 h3 => c_Ce_read h1 h2 h3) rfl rfl wc_0_99 (by decide) (Nat.le_of_ble_eq_true rfl) D_Ca_miss_152 (fun s5 a6 => ?_)
    refine g_iast C rfl rfl D_Ca_miss_155 (fun s7 => ?_)
    refine g_iinc (t := 3) (L' := fun z => [(6, .inl z), (0, .inr (.inr 9)), (1, .inl p1), (2, .inl p2)]) C D_Ca_miss_156 rfl (by decide) (fun _ => rfl) (fun a8 => ?_)
    refine g_goto (tgt := 123) C D_Ca_miss_159 (by decide) ?_
    refine g_sub [1, 2, 3, 0] rfl ?_
    exact hrec _ _
def j_Ca_miss_94 (σ : gM) (v1 v2 v4 : Int) : gO :=
  gk (F_Ce_openFor σ v2) fun s1 a2 =>
  gk (F_Le_spend s1 1 a2) fun s3 _ =>
  gk (F_Le_spend s3 v4 2) fun s4 _ =>
  gl1 (l_Ca_miss_123 (fun s5 => gw s5 10 128 v1 1 fun s6 =>
  gwb s6 14 128 v1 0 fun s7 =>
  gw s7 12 128 v1 (s7 9 9) fun s8 =>
  some (s8, 0)) v1 v2) 200 s4 0
set_option maxHeartbeats 4000000 in
theorem wj_Ca_miss_94 {X : gX} (C : gC gctC prog_2_method_4_code kR0 7 2 50 (none) X) (σ : gM) (v1 v2 v4 : Int) : GG gctC X 94 [(0, .inr (.inr 9)), (1, .inl v1), (2, .inl v2), (4, .inl v4)] [] σ (j_Ca_miss_94 σ v1 v2 v4) := by
  unfold j_Ca_miss_94
  refine g_aload_n C D_Ca_miss_94 rfl 0 rfl ?_
  refine g_getr (ci := 0) C 10 rfl kI0 rfl (by decide) rfl rfl wf_0_41 D_Ca_miss_95 ?_
  refine g_iconst C D_Ca_miss_98 ⟨by decide, by decide⟩ ?_
  refine g_aload_n C D_Ca_miss_99 rfl 0 rfl ?_
  refine g_getr (ci := 0) C 11 rfl kI0 rfl (by decide) rfl rfl wf_0_45 D_Ca_miss_100 ?_
  refine g_iload_n C D_Ca_miss_103 rfl 2 rfl ?_
  refine g_callVi (ci := 1) C [.inl v2] [.inl 1, .inr (.inr 2)] (Or.inl rfl) rfl (fun _ h1 h2 h3 => c_Ce_openFor h1 h2 h3) rfl rfl wc_0_79 (by decide) (Nat.le_of_ble_eq_true rfl) D_Ca_miss_104 (fun s1 a2 => ?_)
  refine g_callVv (ci := 3) C [.inl 1, .inl a2] [] rfl rfl (fun _ h1 h2 h3 => c_Le_spend h1 h2 h3) rfl rfl wc_0_62 (by decide) (Nat.le_of_ble_eq_true rfl) D_Ca_miss_107 (fun s3 _ => ?_)
  refine g_aload_n C D_Ca_miss_110 rfl 0 rfl ?_
  refine g_getr (ci := 0) C 10 rfl kI0 rfl (by decide) rfl rfl wf_0_41 D_Ca_miss_111 ?_
  refine g_iload C D_Ca_miss_114 3 rfl ?_
  refine g_iconst C D_Ca_miss_116 ⟨by decide, by decide⟩ ?_
  refine g_callVv (ci := 3) C [.inl v4, .inl 2] [] rfl rfl (fun _ h1 h2 h3 => c_Le_spend h1 h2 h3) rfl rfl wc_0_62 (by decide) (Nat.le_of_ble_eq_true rfl) D_Ca_miss_117 (fun s4 _ => ?_)
  refine g_iconst C D_Ca_miss_120 ⟨by decide, by decide⟩ ?_
  refine g_istore (L' := [(6, .inl 0), (0, .inr (.inr 9)), (1, .inl v1), (2, .inl v2), (4, .inl v4)]) C D_Ca_miss_121 (by decide) rfl ?_
  refine g_sub [1, 2, 3, 0] rfl ?_
  exact wl_Ca_miss_123 C (fun s5 => by
      refine g_aload_n C D_Ca_miss_162 rfl 0 rfl ?_
      refine g_getr (ci := 0) C 0 rfl kI0 rfl (by decide) rfl rfl wf_0_9 D_Ca_miss_163 ?_
      refine g_iload_n C D_Ca_miss_166 rfl 1 rfl ?_
      refine g_iconst C D_Ca_miss_167 ⟨by decide, by decide⟩ ?_
      refine g_iast C rfl rfl D_Ca_miss_168 (fun s6 => ?_)
      refine g_aload_n C D_Ca_miss_169 rfl 0 rfl ?_
      refine g_getr (ci := 0) C 4 rfl kI0 rfl (by decide) rfl rfl wf_0_24 D_Ca_miss_170 ?_
      refine g_iload_n C D_Ca_miss_173 rfl 1 rfl ?_
      refine g_iconst C D_Ca_miss_174 ⟨by decide, by decide⟩ ?_
      refine g_zast C rfl rfl D_Ca_miss_175 (fun s7 => ?_)
      refine g_aload_n C D_Ca_miss_176 rfl 0 rfl ?_
      refine g_getr (ci := 0) C 2 rfl kI0 rfl (by decide) rfl rfl wf_0_18 D_Ca_miss_177 ?_
      refine g_iload_n C D_Ca_miss_180 rfl 1 rfl ?_
      refine g_aload_n C D_Ca_miss_181 rfl 0 rfl ?_
      refine g_get (ci := 0) C 9 (jz := 9) rfl rfl kI0 rfl (by decide) rfl rfl wf_0_68 rfl D_Ca_miss_182 ?_
      refine g_iast C rfl rfl D_Ca_miss_185 (fun s8 => ?_)
      exact g_vret C D_Ca_miss_186) 200 _ _
def j_Ca_miss_86 (σ : gM) (v1 v2 v4 v5 : Int) : gO :=
  gw σ 10 128 v5 0 fun s1 =>
  j_Ca_miss_94 s1 v1 v2 v4
set_option maxHeartbeats 4000000 in
theorem wj_Ca_miss_86 {X : gX} (C : gC gctC prog_2_method_4_code kR0 7 2 50 (none) X) (σ : gM) (v1 v2 v4 v5 : Int) : GG gctC X 86 [(0, .inr (.inr 9)), (1, .inl v1), (2, .inl v2), (4, .inl v4), (5, .inl v5)] [] σ (j_Ca_miss_86 σ v1 v2 v4 v5) := by
  unfold j_Ca_miss_86
  refine g_aload_n C D_Ca_miss_86 rfl 0 rfl ?_
  refine g_getr (ci := 0) C 0 rfl kI0 rfl (by decide) rfl rfl wf_0_9 D_Ca_miss_87 ?_
  refine g_iload C D_Ca_miss_90 4 rfl ?_
  refine g_iconst C D_Ca_miss_92 ⟨by decide, by decide⟩ ?_
  refine g_iast C rfl rfl D_Ca_miss_93 (fun s1 => ?_)
  refine g_sub [0, 1, 2, 3] rfl ?_
  exact wj_Ca_miss_94 C _ _ _ _
def j_Ca_miss_53 (σ : gM) (v1 v2 v4 : Int) : gO :=
  gk (F_Ca_leavingFor σ v1) fun s1 a2 =>
  if a2 = (-4) then
  (j_Ca_miss_94 s1 v1 v2 v4)
  else
  (gi a2 128 <|
  if (s1 10 a2) = 2 then
  (gk (F_Ca_store s1 a2 v4) fun s3 _ =>
  j_Ca_miss_86 s3 v1 v2 v4 a2)
  else
  (j_Ca_miss_86 s1 v1 v2 v4 a2))
set_option maxHeartbeats 4000000 in
theorem wj_Ca_miss_53 {X : gX} (C : gC gctC prog_2_method_4_code kR0 7 2 50 (none) X) (σ : gM) (v1 v2 v4 : Int) : GG gctC X 53 [(0, .inr (.inr 9)), (1, .inl v1), (2, .inl v2), (4, .inl v4)] [] σ (j_Ca_miss_53 σ v1 v2 v4) := by
  unfold j_Ca_miss_53
  refine g_aload_n C D_Ca_miss_53 rfl 0 rfl ?_
  refine g_iload_n C D_Ca_miss_54 rfl 1 rfl ?_
  refine g_callVi (ci := 0) C [.inl v1] [] (Or.inl rfl) rfl (fun _ h1 h2 h3 => c_Ca_leavingFor h1 h2 h3) rfl rfl wc_0_96 (by decide) (Nat.le_of_ble_eq_true rfl) D_Ca_miss_55 (fun s1 a2 => ?_)
  refine g_istore (L' := [(5, .inl a2), (0, .inr (.inr 9)), (1, .inl v1), (2, .inl v2), (4, .inl v4)]) C D_Ca_miss_58 (by decide) rfl ?_
  refine g_iload C D_Ca_miss_60 0 rfl ?_
  refine g_bipush C D_Ca_miss_62 (by decide) ⟨by decide, by decide⟩ ?_
  refine g_icmp_eq (tgt := 94) C D_Ca_miss_64 (by decide) ?_ ?_
  · refine g_sub [1, 2, 3, 4] rfl ?_
    exact wj_Ca_miss_94 C _ _ _ _
  · refine g_aload_n C D_Ca_miss_67 rfl 1 rfl ?_
    refine g_getr (ci := 0) C 0 rfl kI0 rfl (by decide) rfl rfl wf_0_9 D_Ca_miss_68 ?_
    refine g_iload C D_Ca_miss_71 0 rfl ?_
    refine g_iald C rfl rfl rfl D_Ca_miss_73 ?_
    refine g_iconst C D_Ca_miss_74 ⟨by decide, by decide⟩ ?_
    refine g_icmp_ne (tgt := 86) C D_Ca_miss_75 (by decide) ?_ ?_
    · refine g_sub [1, 2, 3, 4, 0] rfl ?_
      exact wj_Ca_miss_86 C _ _ _ _ _
    · refine g_aload_n C D_Ca_miss_78 rfl 1 rfl ?_
      refine g_iload C D_Ca_miss_79 0 rfl ?_
      refine g_iload C D_Ca_miss_81 4 rfl ?_
      refine g_callVv (ci := 0) C [.inl a2, .inl v4] [] rfl rfl (fun _ h1 h2 h3 => c_Ca_store h1 h2 h3) rfl rfl wc_0_93 (by decide) (Nat.le_of_ble_eq_true rfl) D_Ca_miss_83 (fun s3 _ => ?_)
      refine g_sub [1, 2, 3, 4, 0] rfl ?_
      exact wj_Ca_miss_86 C _ _ _ _ _
def F_Ca_miss (σ : gM) (v1 : Int) : gO :=
  gd v1 64 <|
  gv (v1 % 64) fun a1 =>
  gk (F_Ca_twinOf σ v1) fun s2 a3 =>
  gk (F_Ca_causeOf s2 v1) fun s4 a5 =>
  gk (F_Le_add s4 1 1) fun s6 _ =>
  gk (F_Le_add s6 a5 1) fun s7 _ =>
  gi a3 128 <|
  if (s7 10 a3) = 2 then
  (gk (F_Ca_store s7 a3 a5) fun s8 _ =>
  j_Ca_miss_53 s8 v1 a1 a5)
  else
  (j_Ca_miss_53 s7 v1 a1 a5)
set_option maxHeartbeats 4000000 in
theorem w_Ca_miss {X : gX} (C : gC gctC prog_2_method_4_code kR0 7 2 50 (none) X) (σ : gM) (v1 : Int) : GG gctC X 0 [(0, .inr (.inr 9)), (1, .inl v1)] [] σ (F_Ca_miss σ v1) := by
  unfold F_Ca_miss
  refine g_iload_n C D_Ca_miss_0 rfl 1 rfl ?_
  refine g_bipush C D_Ca_miss_1 (by decide) ⟨by decide, by decide⟩ ?_
  refine g_irem C D_Ca_miss_3 ?_
  refine g_let C (fun a1 => ?_)
  refine g_istore_n (L' := [(2, .inl a1), (0, .inr (.inr 9)), (1, .inl v1)]) C D_Ca_miss_4 rfl (by decide) rfl ?_
  refine g_iload_n C D_Ca_miss_5 rfl 2 rfl ?_
  refine g_callSi C [.inl v1] [] (Or.inl rfl) rfl (fun _ h1 h2 h3 => c_Ca_twinOf h1 h2 h3) wc_0_75 (by decide) (Nat.le_of_ble_eq_true rfl) D_Ca_miss_6 (fun s2 a3 => ?_)
  refine g_istore_n (L' := [(3, .inl a3), (2, .inl a1), (0, .inr (.inr 9)), (1, .inl v1)]) C D_Ca_miss_9 rfl (by decide) rfl ?_
  refine g_aload_n C D_Ca_miss_10 rfl 2 rfl ?_
  refine g_iload_n C D_Ca_miss_11 rfl 3 rfl ?_
  refine g_callVi (ci := 0) C [.inl v1] [] (Or.inl rfl) rfl (fun _ h1 h2 h3 => c_Ca_causeOf h1 h2 h3) rfl rfl wc_0_90 (by decide) (Nat.le_of_ble_eq_true rfl) D_Ca_miss_12 (fun s4 a5 => ?_)
  refine g_istore (L' := [(4, .inl a5), (3, .inl a3), (2, .inl a1), (0, .inr (.inr 9)), (1, .inl v1)]) C D_Ca_miss_15 (by decide) rfl ?_
  refine g_aload_n C D_Ca_miss_17 rfl 3 rfl ?_
  refine g_getr (ci := 0) C 10 rfl kI0 rfl (by decide) rfl rfl wf_0_41 D_Ca_miss_18 ?_
  refine g_iconst C D_Ca_miss_21 ⟨by decide, by decide⟩ ?_
  refine g_iconst C D_Ca_miss_22 ⟨by decide, by decide⟩ ?_
  refine g_callVv (ci := 3) C [.inl 1, .inl 1] [] rfl rfl (fun _ h1 h2 h3 => c_Le_add h1 h2 h3) rfl rfl wc_0_52 (by decide) (Nat.le_of_ble_eq_true rfl) D_Ca_miss_23 (fun s6 _ => ?_)
  refine g_aload_n C D_Ca_miss_26 rfl 3 rfl ?_
  refine g_getr (ci := 0) C 10 rfl kI0 rfl (by decide) rfl rfl wf_0_41 D_Ca_miss_27 ?_
  refine g_iload C D_Ca_miss_30 0 rfl ?_
  refine g_iconst C D_Ca_miss_32 ⟨by decide, by decide⟩ ?_
  refine g_callVv (ci := 3) C [.inl a5, .inl 1] [] rfl rfl (fun _ h1 h2 h3 => c_Le_add h1 h2 h3) rfl rfl wc_0_52 (by decide) (Nat.le_of_ble_eq_true rfl) D_Ca_miss_33 (fun s7 _ => ?_)
  refine g_aload_n C D_Ca_miss_36 rfl 3 rfl ?_
  refine g_getr (ci := 0) C 0 rfl kI0 rfl (by decide) rfl rfl wf_0_9 D_Ca_miss_37 ?_
  refine g_iload_n C D_Ca_miss_40 rfl 1 rfl ?_
  refine g_iald C rfl rfl rfl D_Ca_miss_41 ?_
  refine g_iconst C D_Ca_miss_42 ⟨by decide, by decide⟩ ?_
  refine g_icmp_ne (tgt := 53) C D_Ca_miss_43 (by decide) ?_ ?_
  · refine g_sub [3, 4, 2, 0] rfl ?_
    exact wj_Ca_miss_53 C _ _ _ _
  · refine g_aload_n C D_Ca_miss_46 rfl 3 rfl ?_
    refine g_iload_n C D_Ca_miss_47 rfl 1 rfl ?_
    refine g_iload C D_Ca_miss_48 0 rfl ?_
    refine g_callVv (ci := 0) C [.inl a3, .inl a5] [] rfl rfl (fun _ h1 h2 h3 => c_Ca_store h1 h2 h3) rfl rfl wc_0_93 (by decide) (Nat.le_of_ble_eq_true rfl) D_Ca_miss_50 (fun s8 _ => ?_)
    refine g_sub [3, 4, 2, 0] rfl ?_
    exact wj_Ca_miss_53 C _ _ _ _
theorem c_Ca_miss {σ : gM} {v1 : Int} {r : gR} (ho : F_Ca_miss σ v1 = some r) (hok : gOk [.inr (.inr 9), .inl v1]) (hin : gIn gctC σ) : gCt gctC Y_Ca_miss prog_2_method_4_code 7 (none) 2 50 [.inr (.inr 9), .inl v1] σ r := g_entry (by decide) rfl (Nat.le_of_ble_eq_true rfl) ho hok hin (fun X C => w_Ca_miss C σ v1)
theorem D_Ca_ask_0 : decode prog_2_method_2_code 0 = .ok (.iload_n 1, 1) := by decide +kernel
theorem D_Ca_ask_1 : decode prog_2_method_2_code 1 = .ok (.bipush 64, 2) := by decide +kernel
theorem D_Ca_ask_3 : decode prog_2_method_2_code 3 = .ok (.imul, 1) := by decide +kernel
theorem D_Ca_ask_4 : decode prog_2_method_2_code 4 = .ok (.iload_n 2, 1) := by decide +kernel
theorem D_Ca_ask_5 : decode prog_2_method_2_code 5 = .ok (.bipush 8, 2) := by decide +kernel
theorem D_Ca_ask_7 : decode prog_2_method_2_code 7 = .ok (.idiv, 1) := by decide +kernel
theorem D_Ca_ask_8 : decode prog_2_method_2_code 8 = .ok (.iadd, 1) := by decide +kernel
theorem D_Ca_ask_9 : decode prog_2_method_2_code 9 = .ok (.istore_n 3, 1) := by decide +kernel
theorem D_Ca_ask_10 : decode prog_2_method_2_code 10 = .ok (.aload_n 0, 1) := by decide +kernel
theorem D_Ca_ask_11 : decode prog_2_method_2_code 11 = .ok (.getfield 41, 3) := by decide +kernel
theorem D_Ca_ask_14 : decode prog_2_method_2_code 14 = .ok (.iconst 0, 1) := by decide +kernel
theorem D_Ca_ask_15 : decode prog_2_method_2_code 15 = .ok (.iconst 1, 1) := by decide +kernel
theorem D_Ca_ask_16 : decode prog_2_method_2_code 16 = .ok (.invokevirtual 52, 3) := by decide +kernel
theorem D_Ca_ask_19 : decode prog_2_method_2_code 19 = .ok (.aload_n 0, 1) := by decide +kernel
theorem D_Ca_ask_20 : decode prog_2_method_2_code 20 = .ok (.getfield 9, 3) := by decide +kernel
theorem D_Ca_ask_23 : decode prog_2_method_2_code 23 = .ok (.iload_n 3, 1) := by decide +kernel
theorem D_Ca_ask_24 : decode prog_2_method_2_code 24 = .ok (.iaload, 1) := by decide +kernel
theorem D_Ca_ask_25 : decode prog_2_method_2_code 25 = .ok (.ifCond .ne 8, 3) := by decide +kernel
theorem D_Ca_ask_28 : decode prog_2_method_2_code 28 = .ok (.aload_n 0, 1) := by decide +kernel
theorem D_Ca_ask_29 : decode prog_2_method_2_code 29 = .ok (.iload_n 3, 1) := by decide +kernel
theorem D_Ca_ask_30 : decode prog_2_method_2_code 30 = .ok (.invokevirtual 58, 3) := by decide +kernel
theorem D_Ca_ask_33 : decode prog_2_method_2_code 33 = .ok (.aload_n 0, 1) := by decide +kernel
theorem D_Ca_ask_34 : decode prog_2_method_2_code 34 = .ok (.getfield 41, 3) := by decide +kernel
theorem D_Ca_ask_37 : decode prog_2_method_2_code 37 = .ok (.iconst 0, 1) := by decide +kernel
theorem D_Ca_ask_38 : decode prog_2_method_2_code 38 = .ok (.iconst 1, 1) := by decide +kernel
theorem D_Ca_ask_39 : decode prog_2_method_2_code 39 = .ok (.invokevirtual 62, 3) := by decide +kernel
theorem D_Ca_ask_42 : decode prog_2_method_2_code 42 = .ok (.aload_n 0, 1) := by decide +kernel
theorem D_Ca_ask_43 : decode prog_2_method_2_code 43 = .ok (.getfield 28, 3) := by decide +kernel
theorem D_Ca_ask_46 : decode prog_2_method_2_code 46 = .ok (.iload_n 3, 1) := by decide +kernel
theorem D_Ca_ask_47 : decode prog_2_method_2_code 47 = .ok (.baload, 1) := by decide +kernel
theorem D_Ca_ask_48 : decode prog_2_method_2_code 48 = .ok (.ifCond .ne 9, 3) := by decide +kernel
theorem D_Ca_ask_51 : decode prog_2_method_2_code 51 = .ok (.aload_n 0, 1) := by decide +kernel
theorem D_Ca_ask_52 : decode prog_2_method_2_code 52 = .ok (.iload_n 1, 1) := by decide +kernel
theorem D_Ca_ask_53 : decode prog_2_method_2_code 53 = .ok (.iload_n 3, 1) := by decide +kernel
theorem D_Ca_ask_54 : decode prog_2_method_2_code 54 = .ok (.invokevirtual 65, 3) := by decide +kernel
theorem D_Ca_ask_57 : decode prog_2_method_2_code 57 = .ok (.aload_n 0, 1) := by decide +kernel
theorem D_Ca_ask_58 : decode prog_2_method_2_code 58 = .ok (.dup, 1) := by decide +kernel
theorem D_Ca_ask_59 : decode prog_2_method_2_code 59 = .ok (.getfield 68, 3) := by decide +kernel
theorem D_Ca_ask_62 : decode prog_2_method_2_code 62 = .ok (.iconst 1, 1) := by decide +kernel
theorem D_Ca_ask_63 : decode prog_2_method_2_code 63 = .ok (.iadd, 1) := by decide +kernel
theorem D_Ca_ask_64 : decode prog_2_method_2_code 64 = .ok (.putfield 68, 3) := by decide +kernel
theorem D_Ca_ask_67 : decode prog_2_method_2_code 67 = .ok (.aload_n 0, 1) := by decide +kernel
theorem D_Ca_ask_68 : decode prog_2_method_2_code 68 = .ok (.getfield 21, 3) := by decide +kernel
theorem D_Ca_ask_71 : decode prog_2_method_2_code 71 = .ok (.iload_n 3, 1) := by decide +kernel
theorem D_Ca_ask_72 : decode prog_2_method_2_code 72 = .ok (.aload_n 0, 1) := by decide +kernel
theorem D_Ca_ask_73 : decode prog_2_method_2_code 73 = .ok (.getfield 68, 3) := by decide +kernel
theorem D_Ca_ask_76 : decode prog_2_method_2_code 76 = .ok (.iastore, 1) := by decide +kernel
theorem D_Ca_ask_77 : decode prog_2_method_2_code 77 = .ok (.aload_n 0, 1) := by decide +kernel
theorem D_Ca_ask_78 : decode prog_2_method_2_code 78 = .ok (.getfield 15, 3) := by decide +kernel
theorem D_Ca_ask_81 : decode prog_2_method_2_code 81 = .ok (.iload_n 3, 1) := by decide +kernel
theorem D_Ca_ask_82 : decode prog_2_method_2_code 82 = .ok (.bipush 8, 2) := by decide +kernel
theorem D_Ca_ask_84 : decode prog_2_method_2_code 84 = .ok (.imul, 1) := by decide +kernel
theorem D_Ca_ask_85 : decode prog_2_method_2_code 85 = .ok (.iload_n 2, 1) := by decide +kernel
theorem D_Ca_ask_86 : decode prog_2_method_2_code 86 = .ok (.bipush 8, 2) := by decide +kernel
theorem D_Ca_ask_88 : decode prog_2_method_2_code 88 = .ok (.irem, 1) := by decide +kernel
theorem D_Ca_ask_89 : decode prog_2_method_2_code 89 = .ok (.iadd, 1) := by decide +kernel
theorem D_Ca_ask_90 : decode prog_2_method_2_code 90 = .ok (.iaload, 1) := by decide +kernel
theorem D_Ca_ask_91 : decode prog_2_method_2_code 91 = .ok (.ireturn, 1) := by decide +kernel
def j_Ca_ask_57 (σ : gM) (v2 v3 : Int) : gO :=
  ga ((σ 9 9) + 1) fun a1 =>
  gp σ 9 9 a1 fun s2 =>
  gw s2 13 128 v3 (s2 9 9) fun s3 =>
  ga (v3 * 8) fun a4 =>
  gd v2 8 <|
  ga (a4 + (v2 % 8)) fun a5 =>
  gi a5 1024 <|
  some (s3, (s3 11 a5))
set_option maxHeartbeats 4000000 in
theorem wj_Ca_ask_57 {X : gX} (C : gC gctC prog_2_method_2_code kR0 4 3 76 (some .int) X) (σ : gM) (v2 v3 : Int) : GG gctC X 57 [(0, .inr (.inr 9)), (2, .inl v2), (3, .inl v3)] [] σ (j_Ca_ask_57 σ v2 v3) := by
  unfold j_Ca_ask_57
  refine g_aload_n C D_Ca_ask_57 rfl 0 rfl ?_
  refine g_dup C D_Ca_ask_58 rfl ?_
  refine g_get (ci := 0) C 9 (jz := 9) rfl rfl kI0 rfl (by decide) rfl rfl wf_0_68 rfl D_Ca_ask_59 ?_
  refine g_iconst C D_Ca_ask_62 ⟨by decide, by decide⟩ ?_
  refine g_iadd C D_Ca_ask_63 (fun a1 => ?_)
  refine g_putI (ci := 0) C 9 (jz := 9) rfl rfl kI0 kO0 kN0 rfl (by decide) rfl rfl wf_0_68 D_Ca_ask_64 (fun s2 => ?_)
  refine g_aload_n C D_Ca_ask_67 rfl 0 rfl ?_
  refine g_getr (ci := 0) C 3 rfl kI0 rfl (by decide) rfl rfl wf_0_21 D_Ca_ask_68 ?_
  refine g_iload_n C D_Ca_ask_71 rfl 2 rfl ?_
  refine g_aload_n C D_Ca_ask_72 rfl 0 rfl ?_
  refine g_get (ci := 0) C 9 (jz := 9) rfl rfl kI0 rfl (by decide) rfl rfl wf_0_68 rfl D_Ca_ask_73 ?_
  refine g_iast C rfl rfl D_Ca_ask_76 (fun s3 => ?_)
  refine g_aload_n C D_Ca_ask_77 rfl 0 rfl ?_
  refine g_getr (ci := 0) C 1 rfl kI0 rfl (by decide) rfl rfl wf_0_15 D_Ca_ask_78 ?_
  refine g_iload_n C D_Ca_ask_81 rfl 2 rfl ?_
  refine g_bipush C D_Ca_ask_82 (by decide) ⟨by decide, by decide⟩ ?_
  refine g_imul C D_Ca_ask_84 (fun a4 => ?_)
  refine g_iload_n C D_Ca_ask_85 rfl 1 rfl ?_
  refine g_bipush C D_Ca_ask_86 (by decide) ⟨by decide, by decide⟩ ?_
  refine g_irem C D_Ca_ask_88 ?_
  refine g_iadd C D_Ca_ask_89 (fun a5 => ?_)
  refine g_iald C rfl rfl rfl D_Ca_ask_90 ?_
  exact g_iret C D_Ca_ask_91
def j_Ca_ask_33 (σ : gM) (v1 v2 v3 : Int) : gO :=
  gk (F_Le_spend σ 0 1) fun s1 _ =>
  gi v3 128 <|
  if (s1 15 v3) = 0 then
  (gk (F_Ca_joinPlay s1 v1 v3) fun s2 _ =>
  j_Ca_ask_57 s2 v2 v3)
  else
  (j_Ca_ask_57 s1 v2 v3)
set_option maxHeartbeats 4000000 in
theorem wj_Ca_ask_33 {X : gX} (C : gC gctC prog_2_method_2_code kR0 4 3 76 (some .int) X) (σ : gM) (v1 v2 v3 : Int) : GG gctC X 33 [(0, .inr (.inr 9)), (1, .inl v1), (2, .inl v2), (3, .inl v3)] [] σ (j_Ca_ask_33 σ v1 v2 v3) := by
  unfold j_Ca_ask_33
  refine g_aload_n C D_Ca_ask_33 rfl 0 rfl ?_
  refine g_getr (ci := 0) C 10 rfl kI0 rfl (by decide) rfl rfl wf_0_41 D_Ca_ask_34 ?_
  refine g_iconst C D_Ca_ask_37 ⟨by decide, by decide⟩ ?_
  refine g_iconst C D_Ca_ask_38 ⟨by decide, by decide⟩ ?_
  refine g_callVv (ci := 3) C [.inl 0, .inl 1] [] rfl rfl (fun _ h1 h2 h3 => c_Le_spend h1 h2 h3) rfl rfl wc_0_62 (by decide) (Nat.le_of_ble_eq_true rfl) D_Ca_ask_39 (fun s1 _ => ?_)
  refine g_aload_n C D_Ca_ask_42 rfl 0 rfl ?_
  refine g_getr (ci := 0) C 5 rfl kI0 rfl (by decide) rfl rfl wf_0_28 D_Ca_ask_43 ?_
  refine g_iload_n C D_Ca_ask_46 rfl 3 rfl ?_
  refine g_zald C rfl rfl rfl D_Ca_ask_47 ?_
  refine g_if_ne (tgt := 57) C D_Ca_ask_48 (by decide) ?_ ?_
  · refine g_sub [0, 2, 3] rfl ?_
    exact wj_Ca_ask_57 C _ _ _
  · refine g_aload_n C D_Ca_ask_51 rfl 0 rfl ?_
    refine g_iload_n C D_Ca_ask_52 rfl 1 rfl ?_
    refine g_iload_n C D_Ca_ask_53 rfl 3 rfl ?_
    refine g_callVv (ci := 0) C [.inl v1, .inl v3] [] rfl rfl (fun _ h1 h2 h3 => c_Ca_joinPlay h1 h2 h3) rfl rfl wc_0_65 (by decide) (Nat.le_of_ble_eq_true rfl) D_Ca_ask_54 (fun s2 _ => ?_)
    refine g_sub [0, 2, 3] rfl ?_
    exact wj_Ca_ask_57 C _ _ _
def F_Ca_ask (σ : gM) (v1 v2 : Int) : gO :=
  ga (v1 * 64) fun a1 =>
  gd v2 8 <|
  ga (a1 + (v2 / 8)) fun a2 =>
  gk (F_Le_add σ 0 1) fun s3 _ =>
  gi a2 128 <|
  if (s3 10 a2) = 0 then
  (gk (F_Ca_miss s3 a2) fun s4 _ =>
  j_Ca_ask_33 s4 v1 v2 a2)
  else
  (j_Ca_ask_33 s3 v1 v2 a2)
set_option maxHeartbeats 4000000 in
theorem w_Ca_ask {X : gX} (C : gC gctC prog_2_method_2_code kR0 4 3 76 (some .int) X) (σ : gM) (v1 v2 : Int) : GG gctC X 0 [(0, .inr (.inr 9)), (1, .inl v1), (2, .inl v2)] [] σ (F_Ca_ask σ v1 v2) := by
  unfold F_Ca_ask
  refine g_iload_n C D_Ca_ask_0 rfl 1 rfl ?_
  refine g_bipush C D_Ca_ask_1 (by decide) ⟨by decide, by decide⟩ ?_
  refine g_imul C D_Ca_ask_3 (fun a1 => ?_)
  refine g_iload_n C D_Ca_ask_4 rfl 2 rfl ?_
  refine g_bipush C D_Ca_ask_5 (by decide) ⟨by decide, by decide⟩ ?_
  refine g_idiv C D_Ca_ask_7 ?_
  refine g_iadd C D_Ca_ask_8 (fun a2 => ?_)
  refine g_istore_n (L' := [(3, .inl a2), (0, .inr (.inr 9)), (1, .inl v1), (2, .inl v2)]) C D_Ca_ask_9 rfl (by decide) rfl ?_
  refine g_aload_n C D_Ca_ask_10 rfl 1 rfl ?_
  refine g_getr (ci := 0) C 10 rfl kI0 rfl (by decide) rfl rfl wf_0_41 D_Ca_ask_11 ?_
  refine g_iconst C D_Ca_ask_14 ⟨by decide, by decide⟩ ?_
  refine g_iconst C D_Ca_ask_15 ⟨by decide, by decide⟩ ?_
  refine g_callVv (ci := 3) C [.inl 0, .inl 1] [] rfl rfl (fun _ h1 h2 h3 => c_Le_add h1 h2 h3) rfl rfl wc_0_52 (by decide) (Nat.le_of_ble_eq_true rfl) D_Ca_ask_16 (fun s3 _ => ?_)
  refine g_aload_n C D_Ca_ask_19 rfl 1 rfl ?_
  refine g_getr (ci := 0) C 0 rfl kI0 rfl (by decide) rfl rfl wf_0_9 D_Ca_ask_20 ?_
  refine g_iload_n C D_Ca_ask_23 rfl 0 rfl ?_
  refine g_iald C rfl rfl rfl D_Ca_ask_24 ?_
  refine g_if_ne (tgt := 33) C D_Ca_ask_25 (by decide) ?_ ?_
  · refine g_sub [1, 2, 3, 0] rfl ?_
    exact wj_Ca_ask_33 C _ _ _ _
  · refine g_aload_n C D_Ca_ask_28 rfl 1 rfl ?_
    refine g_iload_n C D_Ca_ask_29 rfl 0 rfl ?_
    refine g_callVv (ci := 0) C [.inl a2] [] rfl rfl (fun _ h1 h2 h3 => c_Ca_miss h1 h2 h3) rfl rfl wc_0_58 (by decide) (Nat.le_of_ble_eq_true rfl) D_Ca_ask_30 (fun s4 _ => ?_)
    refine g_sub [1, 2, 3, 0] rfl ?_
    exact wj_Ca_ask_33 C _ _ _ _
theorem c_Ca_ask {σ : gM} {v1 v2 : Int} {r : gR} (ho : F_Ca_ask σ v1 v2 = some r) (hok : gOk [.inr (.inr 9), .inl v1, .inl v2]) (hin : gIn gctC σ) : gCt gctC Y_Ca_ask prog_2_method_2_code 4 (some .int) 3 76 [.inr (.inr 9), .inl v1, .inl v2] σ r := g_entry (by decide) rfl (Nat.le_of_ble_eq_true rfl) ho hok hin (fun X C => w_Ca_ask C σ v1 v2)
theorem D_Ca_change_0 : decode prog_2_method_3_code 0 = .ok (.aload_n 0, 1) := by decide +kernel
theorem D_Ca_change_1 : decode prog_2_method_3_code 1 = .ok (.iload_n 1, 1) := by decide +kernel
theorem D_Ca_change_2 : decode prog_2_method_3_code 2 = .ok (.iload_n 2, 1) := by decide +kernel
theorem D_Ca_change_3 : decode prog_2_method_3_code 3 = .ok (.invokevirtual 71, 3) := by decide +kernel
theorem D_Ca_change_6 : decode prog_2_method_3_code 6 = .ok (.pop, 1) := by decide +kernel
theorem D_Ca_change_7 : decode prog_2_method_3_code 7 = .ok (.iload_n 2, 1) := by decide +kernel
theorem D_Ca_change_8 : decode prog_2_method_3_code 8 = .ok (.bipush 8, 2) := by decide +kernel
theorem D_Ca_change_10 : decode prog_2_method_3_code 10 = .ok (.idiv, 1) := by decide +kernel
theorem D_Ca_change_11 : decode prog_2_method_3_code 11 = .ok (.istore 4, 2) := by decide +kernel
theorem D_Ca_change_13 : decode prog_2_method_3_code 13 = .ok (.iload_n 1, 1) := by decide +kernel
theorem D_Ca_change_14 : decode prog_2_method_3_code 14 = .ok (.bipush 64, 2) := by decide +kernel
theorem D_Ca_change_16 : decode prog_2_method_3_code 16 = .ok (.imul, 1) := by decide +kernel
theorem D_Ca_change_17 : decode prog_2_method_3_code 17 = .ok (.iload 4, 2) := by decide +kernel
theorem D_Ca_change_19 : decode prog_2_method_3_code 19 = .ok (.iadd, 1) := by decide +kernel
theorem D_Ca_change_20 : decode prog_2_method_3_code 20 = .ok (.istore 5, 2) := by decide +kernel
theorem D_Ca_change_22 : decode prog_2_method_3_code 22 = .ok (.iload 5, 2) := by decide +kernel
theorem D_Ca_change_24 : decode prog_2_method_3_code 24 = .ok (.invokestatic 75, 3) := by decide +kernel
theorem D_Ca_change_27 : decode prog_2_method_3_code 27 = .ok (.istore 6, 2) := by decide +kernel
theorem D_Ca_change_29 : decode prog_2_method_3_code 29 = .ok (.aload_n 0, 1) := by decide +kernel
theorem D_Ca_change_30 : decode prog_2_method_3_code 30 = .ok (.getfield 9, 3) := by decide +kernel
theorem D_Ca_change_33 : decode prog_2_method_3_code 33 = .ok (.iload 6, 2) := by decide +kernel
theorem D_Ca_change_35 : decode prog_2_method_3_code 35 = .ok (.iaload, 1) := by decide +kernel
theorem D_Ca_change_36 : decode prog_2_method_3_code 36 = .ok (.ifCond .eq 19, 3) := by decide +kernel
theorem D_Ca_change_39 : decode prog_2_method_3_code 39 = .ok (.aload_n 0, 1) := by decide +kernel
theorem D_Ca_change_40 : decode prog_2_method_3_code 40 = .ok (.getfield 9, 3) := by decide +kernel
theorem D_Ca_change_43 : decode prog_2_method_3_code 43 = .ok (.iload 6, 2) := by decide +kernel
theorem D_Ca_change_45 : decode prog_2_method_3_code 45 = .ok (.iconst 0, 1) := by decide +kernel
theorem D_Ca_change_46 : decode prog_2_method_3_code 46 = .ok (.iastore, 1) := by decide +kernel
theorem D_Ca_change_47 : decode prog_2_method_3_code 47 = .ok (.aload_n 0, 1) := by decide +kernel
theorem D_Ca_change_48 : decode prog_2_method_3_code 48 = .ok (.getfield 24, 3) := by decide +kernel
theorem D_Ca_change_51 : decode prog_2_method_3_code 51 = .ok (.iload 6, 2) := by decide +kernel
theorem D_Ca_change_53 : decode prog_2_method_3_code 53 = .ok (.iconst 1, 1) := by decide +kernel
theorem D_Ca_change_54 : decode prog_2_method_3_code 54 = .ok (.bastore, 1) := by decide +kernel
theorem D_Ca_change_55 : decode prog_2_method_3_code 55 = .ok (.aload_n 0, 1) := by decide +kernel
theorem D_Ca_change_56 : decode prog_2_method_3_code 56 = .ok (.getfield 15, 3) := by decide +kernel
theorem D_Ca_change_59 : decode prog_2_method_3_code 59 = .ok (.iload 5, 2) := by decide +kernel
theorem D_Ca_change_61 : decode prog_2_method_3_code 61 = .ok (.bipush 8, 2) := by decide +kernel
theorem D_Ca_change_63 : decode prog_2_method_3_code 63 = .ok (.imul, 1) := by decide +kernel
theorem D_Ca_change_64 : decode prog_2_method_3_code 64 = .ok (.iload_n 2, 1) := by decide +kernel
theorem D_Ca_change_65 : decode prog_2_method_3_code 65 = .ok (.bipush 8, 2) := by decide +kernel
theorem D_Ca_change_67 : decode prog_2_method_3_code 67 = .ok (.irem, 1) := by decide +kernel
theorem D_Ca_change_68 : decode prog_2_method_3_code 68 = .ok (.iadd, 1) := by decide +kernel
theorem D_Ca_change_69 : decode prog_2_method_3_code 69 = .ok (.iload_n 3, 1) := by decide +kernel
theorem D_Ca_change_70 : decode prog_2_method_3_code 70 = .ok (.iastore, 1) := by decide +kernel
theorem D_Ca_change_71 : decode prog_2_method_3_code 71 = .ok (.aload_n 0, 1) := by decide +kernel
theorem D_Ca_change_72 : decode prog_2_method_3_code 72 = .ok (.getfield 49, 3) := by decide +kernel
theorem D_Ca_change_75 : decode prog_2_method_3_code 75 = .ok (.iconst 1, 1) := by decide +kernel
theorem D_Ca_change_76 : decode prog_2_method_3_code 76 = .ok (.iaload, 1) := by decide +kernel
theorem D_Ca_change_77 : decode prog_2_method_3_code 77 = .ok (.iconst 1, 1) := by decide +kernel
theorem D_Ca_change_78 : decode prog_2_method_3_code 78 = .ok (.if_icmp .ne 12, 3) := by decide +kernel
theorem D_Ca_change_81 : decode prog_2_method_3_code 81 = .ok (.aload_n 0, 1) := by decide +kernel
theorem D_Ca_change_82 : decode prog_2_method_3_code 82 = .ok (.getfield 9, 3) := by decide +kernel
theorem D_Ca_change_85 : decode prog_2_method_3_code 85 = .ok (.iload 5, 2) := by decide +kernel
theorem D_Ca_change_87 : decode prog_2_method_3_code 87 = .ok (.iconst 2, 1) := by decide +kernel
theorem D_Ca_change_88 : decode prog_2_method_3_code 88 = .ok (.iastore, 1) := by decide +kernel
theorem D_Ca_change_89 : decode prog_2_method_3_code 89 = .ok (.return_, 1) := by decide +kernel
theorem D_Ca_change_90 : decode prog_2_method_3_code 90 = .ok (.aload_n 0, 1) := by decide +kernel
theorem D_Ca_change_91 : decode prog_2_method_3_code 91 = .ok (.getfield 41, 3) := by decide +kernel
theorem D_Ca_change_94 : decode prog_2_method_3_code 94 = .ok (.iconst 1, 1) := by decide +kernel
theorem D_Ca_change_95 : decode prog_2_method_3_code 95 = .ok (.aload_n 0, 1) := by decide +kernel
theorem D_Ca_change_96 : decode prog_2_method_3_code 96 = .ok (.getfield 45, 3) := by decide +kernel
theorem D_Ca_change_99 : decode prog_2_method_3_code 99 = .ok (.iload 4, 2) := by decide +kernel
theorem D_Ca_change_101 : decode prog_2_method_3_code 101 = .ok (.invokevirtual 79, 3) := by decide +kernel
theorem D_Ca_change_104 : decode prog_2_method_3_code 104 = .ok (.invokevirtual 62, 3) := by decide +kernel
theorem D_Ca_change_107 : decode prog_2_method_3_code 107 = .ok (.aload_n 0, 1) := by decide +kernel
theorem D_Ca_change_108 : decode prog_2_method_3_code 108 = .ok (.getfield 41, 3) := by decide +kernel
theorem D_Ca_change_111 : decode prog_2_method_3_code 111 = .ok (.iconst 0, 1) := by decide +kernel
theorem D_Ca_change_112 : decode prog_2_method_3_code 112 = .ok (.iconst 1, 1) := by decide +kernel
theorem D_Ca_change_113 : decode prog_2_method_3_code 113 = .ok (.invokevirtual 62, 3) := by decide +kernel
theorem D_Ca_change_116 : decode prog_2_method_3_code 116 = .ok (.aload_n 0, 1) := by decide +kernel
theorem D_Ca_change_117 : decode prog_2_method_3_code 117 = .ok (.getfield 45, 3) := by decide +kernel
theorem D_Ca_change_120 : decode prog_2_method_3_code 120 = .ok (.getfield 84, 3) := by decide +kernel
theorem D_Ca_change_123 : decode prog_2_method_3_code 123 = .ok (.iload_n 2, 1) := by decide +kernel
theorem D_Ca_change_124 : decode prog_2_method_3_code 124 = .ok (.iload_n 3, 1) := by decide +kernel
theorem D_Ca_change_125 : decode prog_2_method_3_code 125 = .ok (.invokestatic 87, 3) := by decide +kernel
theorem D_Ca_change_128 : decode prog_2_method_3_code 128 = .ok (.iastore, 1) := by decide +kernel
theorem D_Ca_change_129 : decode prog_2_method_3_code 129 = .ok (.return_, 1) := by decide +kernel
def j_Ca_change_55 (σ : gM) (v2 v3 v4 v5 : Int) : gO :=
  ga (v5 * 8) fun a1 =>
  gd v2 8 <|
  ga (a1 + (v2 % 8)) fun a2 =>
  gw σ 11 1024 a2 v3 fun s3 =>
  gi 1 4 <|
  if (s3 1 1) = 1 then
  (gw s3 10 128 v5 2 fun s11 =>
  some (s11, 0))
  else
  (gk (F_Ce_openFor s3 v4) fun s4 a5 =>
  gk (F_Le_spend s4 1 a5) fun s6 _ =>
  gk (F_Le_spend s6 0 1) fun s7 _ =>
  gk (F_Ce_coded s7 v3) fun s8 a9 =>
  gw s8 6 512 v2 a9 fun s10 =>
  some (s10, 0))
set_option maxHeartbeats 4000000 in
theorem wj_Ca_change_55 {X : gX} (C : gC gctC prog_2_method_3_code kR0 7 4 99 (none) X) (σ : gM) (v2 v3 v4 v5 : Int) : GG gctC X 55 [(0, .inr (.inr 9)), (2, .inl v2), (3, .inl v3), (4, .inl v4), (5, .inl v5)] [] σ (j_Ca_change_55 σ v2 v3 v4 v5) := by
  unfold j_Ca_change_55
  refine g_aload_n C D_Ca_change_55 rfl 0 rfl ?_
  refine g_getr (ci := 0) C 1 rfl kI0 rfl (by decide) rfl rfl wf_0_15 D_Ca_change_56 ?_
  refine g_iload C D_Ca_change_59 4 rfl ?_
  refine g_bipush C D_Ca_change_61 (by decide) ⟨by decide, by decide⟩ ?_
  refine g_imul C D_Ca_change_63 (fun a1 => ?_)
  refine g_iload_n C D_Ca_change_64 rfl 1 rfl ?_
  refine g_bipush C D_Ca_change_65 (by decide) ⟨by decide, by decide⟩ ?_
  refine g_irem C D_Ca_change_67 ?_
  refine g_iadd C D_Ca_change_68 (fun a2 => ?_)
  refine g_iload_n C D_Ca_change_69 rfl 2 rfl ?_
  refine g_iast C rfl rfl D_Ca_change_70 (fun s3 => ?_)
  refine g_aload_n C D_Ca_change_71 rfl 0 rfl ?_
  refine g_getr (ci := 0) C 12 rfl kI0 rfl (by decide) rfl rfl wf_0_49 D_Ca_change_72 ?_
  refine g_iconst C D_Ca_change_75 ⟨by decide, by decide⟩ ?_
  refine g_iald C rfl rfl rfl D_Ca_change_76 ?_
  refine g_iconst C D_Ca_change_77 ⟨by decide, by decide⟩ ?_
  refine g_icmp_ne (tgt := 90) C D_Ca_change_78 (by decide) ?_ ?_
  · refine g_aload_n C D_Ca_change_90 rfl 0 rfl ?_
    refine g_getr (ci := 0) C 10 rfl kI0 rfl (by decide) rfl rfl wf_0_41 D_Ca_change_91 ?_
    refine g_iconst C D_Ca_change_94 ⟨by decide, by decide⟩ ?_
    refine g_aload_n C D_Ca_change_95 rfl 0 rfl ?_
    refine g_getr (ci := 0) C 11 rfl kI0 rfl (by decide) rfl rfl wf_0_45 D_Ca_change_96 ?_
    refine g_iload C D_Ca_change_99 3 rfl ?_
    refine g_callVi (ci := 1) C [.inl v4] [.inl 1, .inr (.inr 2)] (Or.inl rfl) rfl (fun _ h1 h2 h3 => c_Ce_openFor h1 h2 h3) rfl rfl wc_0_79 (by decide) (Nat.le_of_ble_eq_true rfl) D_Ca_change_101 (fun s4 a5 => ?_)
    refine g_callVv (ci := 3) C [.inl 1, .inl a5] [] rfl rfl (fun _ h1 h2 h3 => c_Le_spend h1 h2 h3) rfl rfl wc_0_62 (by decide) (Nat.le_of_ble_eq_true rfl) D_Ca_change_104 (fun s6 _ => ?_)
    refine g_aload_n C D_Ca_change_107 rfl 0 rfl ?_
    refine g_getr (ci := 0) C 10 rfl kI0 rfl (by decide) rfl rfl wf_0_41 D_Ca_change_108 ?_
    refine g_iconst C D_Ca_change_111 ⟨by decide, by decide⟩ ?_
    refine g_iconst C D_Ca_change_112 ⟨by decide, by decide⟩ ?_
    refine g_callVv (ci := 3) C [.inl 0, .inl 1] [] rfl rfl (fun _ h1 h2 h3 => c_Le_spend h1 h2 h3) rfl rfl wc_0_62 (by decide) (Nat.le_of_ble_eq_true rfl) D_Ca_change_113 (fun s7 _ => ?_)
    refine g_aload_n C D_Ca_change_116 rfl 0 rfl ?_
    refine g_getr (ci := 0) C 11 rfl kI0 rfl (by decide) rfl rfl wf_0_45 D_Ca_change_117 ?_
    refine g_getr (ci := 1) C 0 rfl kI1 rfl (by decide) rfl rfl wf_0_84 D_Ca_change_120 ?_
    refine g_iload_n C D_Ca_change_123 rfl 1 rfl ?_
    refine g_iload_n C D_Ca_change_124 rfl 2 rfl ?_
    refine g_callSi C [.inl v3] [.inl v2, .inr (.inr 6)] (Or.inl rfl) rfl (fun _ h1 h2 h3 => c_Ce_coded h1 h2 h3) wc_0_87 (by decide) (Nat.le_of_ble_eq_true rfl) D_Ca_change_125 (fun s8 a9 => ?_)
    refine g_iast C rfl rfl D_Ca_change_128 (fun s10 => ?_)
    exact g_vret C D_Ca_change_129
  · refine g_aload_n C D_Ca_change_81 rfl 0 rfl ?_
    refine g_getr (ci := 0) C 0 rfl kI0 rfl (by decide) rfl rfl wf_0_9 D_Ca_change_82 ?_
    refine g_iload C D_Ca_change_85 4 rfl ?_
    refine g_iconst C D_Ca_change_87 ⟨by decide, by decide⟩ ?_
    refine g_iast C rfl rfl D_Ca_change_88 (fun s11 => ?_)
    exact g_vret C D_Ca_change_89
def F_Ca_change (σ : gM) (v1 v2 v3 : Int) : gO :=
  gk (F_Ca_ask σ v1 v2) fun s1 a2 =>
  gd v2 8 <|
  gv (v2 / 8) fun a3 =>
  ga (v1 * 64) fun a4 =>
  ga (a4 + a3) fun a5 =>
  gk (F_Ca_twinOf s1 a5) fun s6 a7 =>
  gi a7 128 <|
  if (s6 10 a7) = 0 then
  (j_Ca_change_55 s6 v2 v3 a3 a5)
  else
  (gw s6 10 128 a7 0 fun s8 =>
  gwb s8 14 128 a7 1 fun s9 =>
  j_Ca_change_55 s9 v2 v3 a3 a5)
set_option maxHeartbeats 4000000 in
theorem w_Ca_change {X : gX} (C : gC gctC prog_2_method_3_code kR0 7 4 99 (none) X) (σ : gM) (v1 v2 v3 : Int) : GG gctC X 0 [(0, .inr (.inr 9)), (1, .inl v1), (2, .inl v2), (3, .inl v3)] [] σ (F_Ca_change σ v1 v2 v3) := by
  unfold F_Ca_change
  refine g_aload_n C D_Ca_change_0 rfl 0 rfl ?_
  refine g_iload_n C D_Ca_change_1 rfl 1 rfl ?_
  refine g_iload_n C D_Ca_change_2 rfl 2 rfl ?_
  refine g_callVi (ci := 0) C [.inl v1, .inl v2] [] (Or.inl rfl) rfl (fun _ h1 h2 h3 => c_Ca_ask h1 h2 h3) rfl rfl wc_0_71 (by decide) (Nat.le_of_ble_eq_true rfl) D_Ca_change_3 (fun s1 a2 => ?_)
  refine g_pop C D_Ca_change_6 rfl ?_
  refine g_iload_n C D_Ca_change_7 rfl 2 rfl ?_
  refine g_bipush C D_Ca_change_8 (by decide) ⟨by decide, by decide⟩ ?_
  refine g_idiv C D_Ca_change_10 ?_
  refine g_let C (fun a3 => ?_)
  refine g_istore (L' := [(4, .inl a3), (0, .inr (.inr 9)), (1, .inl v1), (2, .inl v2), (3, .inl v3)]) C D_Ca_change_11 (by decide) rfl ?_
  refine g_iload_n C D_Ca_change_13 rfl 2 rfl ?_
  refine g_bipush C D_Ca_change_14 (by decide) ⟨by decide, by decide⟩ ?_
  refine g_imul C D_Ca_change_16 (fun a4 => ?_)
  refine g_iload C D_Ca_change_17 0 rfl ?_
  refine g_iadd C D_Ca_change_19 (fun a5 => ?_)
  refine g_istore (L' := [(5, .inl a5), (4, .inl a3), (0, .inr (.inr 9)), (1, .inl v1), (2, .inl v2), (3, .inl v3)]) C D_Ca_change_20 (by decide) rfl ?_
  refine g_iload C D_Ca_change_22 0 rfl ?_
  refine g_callSi C [.inl a5] [] (Or.inl rfl) rfl (fun _ h1 h2 h3 => c_Ca_twinOf h1 h2 h3) wc_0_75 (by decide) (Nat.le_of_ble_eq_true rfl) D_Ca_change_24 (fun s6 a7 => ?_)
  refine g_istore (L' := [(6, .inl a7), (5, .inl a5), (4, .inl a3), (0, .inr (.inr 9)), (1, .inl v1), (2, .inl v2), (3, .inl v3)]) C D_Ca_change_27 (by decide) rfl ?_
  refine g_aload_n C D_Ca_change_29 rfl 3 rfl ?_
  refine g_getr (ci := 0) C 0 rfl kI0 rfl (by decide) rfl rfl wf_0_9 D_Ca_change_30 ?_
  refine g_iload C D_Ca_change_33 0 rfl ?_
  refine g_iald C rfl rfl rfl D_Ca_change_35 ?_
  refine g_if_eq (tgt := 55) C D_Ca_change_36 (by decide) ?_ ?_
  · refine g_sub [3, 5, 6, 2, 1] rfl ?_
    exact wj_Ca_change_55 C _ _ _ _ _
  · refine g_aload_n C D_Ca_change_39 rfl 3 rfl ?_
    refine g_getr (ci := 0) C 0 rfl kI0 rfl (by decide) rfl rfl wf_0_9 D_Ca_change_40 ?_
    refine g_iload C D_Ca_change_43 0 rfl ?_
    refine g_iconst C D_Ca_change_45 ⟨by decide, by decide⟩ ?_
    refine g_iast C rfl rfl D_Ca_change_46 (fun s8 => ?_)
    refine g_aload_n C D_Ca_change_47 rfl 3 rfl ?_
    refine g_getr (ci := 0) C 4 rfl kI0 rfl (by decide) rfl rfl wf_0_24 D_Ca_change_48 ?_
    refine g_iload C D_Ca_change_51 0 rfl ?_
    refine g_iconst C D_Ca_change_53 ⟨by decide, by decide⟩ ?_
    refine g_zast C rfl rfl D_Ca_change_54 (fun s9 => ?_)
    refine g_sub [3, 5, 6, 2, 1] rfl ?_
    exact wj_Ca_change_55 C _ _ _ _ _
theorem c_Ca_change {σ : gM} {v1 v2 v3 : Int} {r : gR} (ho : F_Ca_change σ v1 v2 v3 = some r) (hok : gOk [.inr (.inr 9), .inl v1, .inl v2, .inl v3]) (hin : gIn gctC σ) : gCt gctC Y_Ca_change prog_2_method_3_code 7 (none) 4 99 [.inr (.inr 9), .inl v1, .inl v2, .inl v3] σ r := g_entry (by decide) rfl (Nat.le_of_ble_eq_true rfl) ho hok hin (fun X C => w_Ca_change C σ v1 v2 v3)
theorem D_Ca_dismiss_0 : decode prog_2_method_11_code 0 = .ok (.iconst 0, 1) := by decide +kernel
theorem D_Ca_dismiss_1 : decode prog_2_method_11_code 1 = .ok (.istore 4, 2) := by decide +kernel
theorem D_Ca_dismiss_3 : decode prog_2_method_11_code 3 = .ok (.iload 4, 2) := by decide +kernel
theorem D_Ca_dismiss_5 : decode prog_2_method_11_code 5 = .ok (.iconst 2, 1) := by decide +kernel
theorem D_Ca_dismiss_6 : decode prog_2_method_11_code 6 = .ok (.if_icmp .ge 107, 3) := by decide +kernel
theorem D_Ca_dismiss_9 : decode prog_2_method_11_code 9 = .ok (.iconst 0, 1) := by decide +kernel
theorem D_Ca_dismiss_10 : decode prog_2_method_11_code 10 = .ok (.istore 5, 2) := by decide +kernel
theorem D_Ca_dismiss_12 : decode prog_2_method_11_code 12 = .ok (.iload 5, 2) := by decide +kernel
theorem D_Ca_dismiss_14 : decode prog_2_method_11_code 14 = .ok (.iload_n 2, 1) := by decide +kernel
theorem D_Ca_dismiss_15 : decode prog_2_method_11_code 15 = .ok (.if_icmp .ge 92, 3) := by decide +kernel
theorem D_Ca_dismiss_18 : decode prog_2_method_11_code 18 = .ok (.iload 4, 2) := by decide +kernel
theorem D_Ca_dismiss_20 : decode prog_2_method_11_code 20 = .ok (.bipush 64, 2) := by decide +kernel
theorem D_Ca_dismiss_22 : decode prog_2_method_11_code 22 = .ok (.imul, 1) := by decide +kernel
theorem D_Ca_dismiss_23 : decode prog_2_method_11_code 23 = .ok (.iload_n 1, 1) := by decide +kernel
theorem D_Ca_dismiss_24 : decode prog_2_method_11_code 24 = .ok (.iadd, 1) := by decide +kernel
theorem D_Ca_dismiss_25 : decode prog_2_method_11_code 25 = .ok (.iload 5, 2) := by decide +kernel
theorem D_Ca_dismiss_27 : decode prog_2_method_11_code 27 = .ok (.iadd, 1) := by decide +kernel
theorem D_Ca_dismiss_28 : decode prog_2_method_11_code 28 = .ok (.istore 6, 2) := by decide +kernel
theorem D_Ca_dismiss_30 : decode prog_2_method_11_code 30 = .ok (.aload_n 0, 1) := by decide +kernel
theorem D_Ca_dismiss_31 : decode prog_2_method_11_code 31 = .ok (.getfield 9, 3) := by decide +kernel
theorem D_Ca_dismiss_34 : decode prog_2_method_11_code 34 = .ok (.iload 6, 2) := by decide +kernel
theorem D_Ca_dismiss_36 : decode prog_2_method_11_code 36 = .ok (.iaload, 1) := by decide +kernel
theorem D_Ca_dismiss_37 : decode prog_2_method_11_code 37 = .ok (.iconst 2, 1) := by decide +kernel
theorem D_Ca_dismiss_38 : decode prog_2_method_11_code 38 = .ok (.if_icmp .ne 10, 3) := by decide +kernel
theorem D_Ca_dismiss_41 : decode prog_2_method_11_code 41 = .ok (.aload_n 0, 1) := by decide +kernel
theorem D_Ca_dismiss_42 : decode prog_2_method_11_code 42 = .ok (.iload 6, 2) := by decide +kernel
theorem D_Ca_dismiss_44 : decode prog_2_method_11_code 44 = .ok (.iload_n 3, 1) := by decide +kernel
theorem D_Ca_dismiss_45 : decode prog_2_method_11_code 45 = .ok (.invokevirtual 93, 3) := by decide +kernel
theorem D_Ca_dismiss_48 : decode prog_2_method_11_code 48 = .ok (.aload_n 0, 1) := by decide +kernel
theorem D_Ca_dismiss_49 : decode prog_2_method_11_code 49 = .ok (.getfield 9, 3) := by decide +kernel
theorem D_Ca_dismiss_52 : decode prog_2_method_11_code 52 = .ok (.iload 6, 2) := by decide +kernel
theorem D_Ca_dismiss_54 : decode prog_2_method_11_code 54 = .ok (.iconst 0, 1) := by decide +kernel
theorem D_Ca_dismiss_55 : decode prog_2_method_11_code 55 = .ok (.iastore, 1) := by decide +kernel
theorem D_Ca_dismiss_56 : decode prog_2_method_11_code 56 = .ok (.aload_n 0, 1) := by decide +kernel
theorem D_Ca_dismiss_57 : decode prog_2_method_11_code 57 = .ok (.getfield 21, 3) := by decide +kernel
theorem D_Ca_dismiss_60 : decode prog_2_method_11_code 60 = .ok (.iload 6, 2) := by decide +kernel
theorem D_Ca_dismiss_62 : decode prog_2_method_11_code 62 = .ok (.iconst 0, 1) := by decide +kernel
theorem D_Ca_dismiss_63 : decode prog_2_method_11_code 63 = .ok (.iastore, 1) := by decide +kernel
theorem D_Ca_dismiss_64 : decode prog_2_method_11_code 64 = .ok (.aload_n 0, 1) := by decide +kernel
theorem D_Ca_dismiss_65 : decode prog_2_method_11_code 65 = .ok (.getfield 24, 3) := by decide +kernel
theorem D_Ca_dismiss_68 : decode prog_2_method_11_code 68 = .ok (.iload 6, 2) := by decide +kernel
theorem D_Ca_dismiss_70 : decode prog_2_method_11_code 70 = .ok (.iconst 0, 1) := by decide +kernel
theorem D_Ca_dismiss_71 : decode prog_2_method_11_code 71 = .ok (.bastore, 1) := by decide +kernel
theorem D_Ca_dismiss_72 : decode prog_2_method_11_code 72 = .ok (.aload_n 0, 1) := by decide +kernel
theorem D_Ca_dismiss_73 : decode prog_2_method_11_code 73 = .ok (.getfield 28, 3) := by decide +kernel
theorem D_Ca_dismiss_76 : decode prog_2_method_11_code 76 = .ok (.iload 6, 2) := by decide +kernel
theorem D_Ca_dismiss_78 : decode prog_2_method_11_code 78 = .ok (.baload, 1) := by decide +kernel
theorem D_Ca_dismiss_79 : decode prog_2_method_11_code 79 = .ok (.ifCond .eq 14, 3) := by decide +kernel
theorem D_Ca_dismiss_82 : decode prog_2_method_11_code 82 = .ok (.aload_n 0, 1) := by decide +kernel
theorem D_Ca_dismiss_83 : decode prog_2_method_11_code 83 = .ok (.getfield 31, 3) := by decide +kernel
theorem D_Ca_dismiss_86 : decode prog_2_method_11_code 86 = .ok (.iload 4, 2) := by decide +kernel
theorem D_Ca_dismiss_88 : decode prog_2_method_11_code 88 = .ok (.dup2, 1) := by decide +kernel
theorem D_Ca_dismiss_89 : decode prog_2_method_11_code 89 = .ok (.iaload, 1) := by decide +kernel
theorem D_Ca_dismiss_90 : decode prog_2_method_11_code 90 = .ok (.iconst 1, 1) := by decide +kernel
theorem D_Ca_dismiss_91 : decode prog_2_method_11_code 91 = .ok (.isub, 1) := by decide +kernel
theorem D_Ca_dismiss_92 : decode prog_2_method_11_code 92 = .ok (.iastore, 1) := by decide +kernel
theorem D_Ca_dismiss_93 : decode prog_2_method_11_code 93 = .ok (.aload_n 0, 1) := by decide +kernel
theorem D_Ca_dismiss_94 : decode prog_2_method_11_code 94 = .ok (.getfield 28, 3) := by decide +kernel
theorem D_Ca_dismiss_97 : decode prog_2_method_11_code 97 = .ok (.iload 6, 2) := by decide +kernel
theorem D_Ca_dismiss_99 : decode prog_2_method_11_code 99 = .ok (.iconst 0, 1) := by decide +kernel
theorem D_Ca_dismiss_100 : decode prog_2_method_11_code 100 = .ok (.bastore, 1) := by decide +kernel
theorem D_Ca_dismiss_101 : decode prog_2_method_11_code 101 = .ok (.iinc 5 1, 3) := by decide +kernel
theorem D_Ca_dismiss_104 : decode prog_2_method_11_code 104 = .ok (.goto (-92), 3) := by decide +kernel
theorem D_Ca_dismiss_107 : decode prog_2_method_11_code 107 = .ok (.iinc 4 1, 3) := by decide +kernel
theorem D_Ca_dismiss_110 : decode prog_2_method_11_code 110 = .ok (.goto (-107), 3) := by decide +kernel
theorem D_Ca_dismiss_113 : decode prog_2_method_11_code 113 = .ok (.return_, 1) := by decide +kernel
def j_Ca_dismiss_93 (k1 : gM → gO) (rec : gM → Int → gO) (σ : gM) (p1 p2 p3 p4 v5 v6 : Int) : gO :=
  gwb σ 15 128 v6 0 fun s1 =>
  ga (v5 + 1) fun a2 =>
  rec s1 a2
set_option maxHeartbeats 4000000 in
theorem wj_Ca_dismiss_93 {X : gX} (C : gC gctC prog_2_method_11_code kR0 7 2 50 (none) X) {p1 p2 p3 p4 : Int} {k1 : gM → gO} (hk1 : ∀ (σ : gM), GG gctC X 107 [(0, .inr (.inr 9)), (1, .inl p1), (2, .inl p2), (3, .inl p3), (4, .inl p4)] [] σ (k1 σ)) {rec : gM → Int → gO} (hrec : ∀ (σ : gM) (a0 : Int), GG gctC X 12 [(0, .inr (.inr 9)), (1, .inl p1), (2, .inl p2), (3, .inl p3), (4, .inl p4), (5, .inl a0)] [] σ (rec σ a0)) (σ : gM) (v5 v6 : Int) : GG gctC X 93 [(0, .inr (.inr 9)), (1, .inl p1), (2, .inl p2), (3, .inl p3), (4, .inl p4), (5, .inl v5), (6, .inl v6)] [] σ (j_Ca_dismiss_93 k1 rec σ p1 p2 p3 p4 v5 v6) := by
  unfold j_Ca_dismiss_93
  refine g_aload_n C D_Ca_dismiss_93 rfl 0 rfl ?_
  refine g_getr (ci := 0) C 5 rfl kI0 rfl (by decide) rfl rfl wf_0_28 D_Ca_dismiss_94 ?_
  refine g_iload C D_Ca_dismiss_97 6 rfl ?_
  refine g_iconst C D_Ca_dismiss_99 ⟨by decide, by decide⟩ ?_
  refine g_zast C rfl rfl D_Ca_dismiss_100 (fun s1 => ?_)
  refine g_iinc (t := 5) (L' := fun z => [(5, .inl z), (0, .inr (.inr 9)), (1, .inl p1), (2, .inl p2), (3, .inl p3), (4, .inl p4), (6, .inl v6)]) C D_Ca_dismiss_101 rfl (by decide) (fun _ => rfl) (fun a2 => ?_)
  refine g_goto (tgt := 12) C D_Ca_dismiss_104 (by decide) ?_
  refine g_sub [1, 2, 3, 4, 5, 0] rfl ?_
  exact hrec _ _
def j_Ca_dismiss_48 (k1 : gM → gO) (rec : gM → Int → gO) (σ : gM) (p1 p2 p3 p4 v5 v6 : Int) : gO :=
  gw σ 10 128 v6 0 fun s1 =>
  gw s1 13 128 v6 0 fun s2 =>
  gwb s2 14 128 v6 0 fun s3 =>
  gi v6 128 <|
  if (s3 15 v6) = 0 then
  (j_Ca_dismiss_93 k1 rec s3 p1 p2 p3 p4 v5 v6)
  else
  (gi p4 2 <|
  ga ((s3 16 p4) - 1) fun a4 =>
  gw s3 16 2 p4 a4 fun s5 =>
  j_Ca_dismiss_93 k1 rec s5 p1 p2 p3 p4 v5 v6)
set_option maxHeartbeats 4000000 in
theorem wj_Ca_dismiss_48 {X : gX} (C : gC gctC prog_2_method_11_code kR0 7 2 50 (none) X) {p1 p2 p3 p4 : Int} {k1 : gM → gO} (hk1 : ∀ (σ : gM), GG gctC X 107 [(0, .inr (.inr 9)), (1, .inl p1), (2, .inl p2), (3, .inl p3), (4, .inl p4)] [] σ (k1 σ)) {rec : gM → Int → gO} (hrec : ∀ (σ : gM) (a0 : Int), GG gctC X 12 [(0, .inr (.inr 9)), (1, .inl p1), (2, .inl p2), (3, .inl p3), (4, .inl p4), (5, .inl a0)] [] σ (rec σ a0)) (σ : gM) (v5 v6 : Int) : GG gctC X 48 [(0, .inr (.inr 9)), (1, .inl p1), (2, .inl p2), (3, .inl p3), (4, .inl p4), (5, .inl v5), (6, .inl v6)] [] σ (j_Ca_dismiss_48 k1 rec σ p1 p2 p3 p4 v5 v6) := by
  unfold j_Ca_dismiss_48
  refine g_aload_n C D_Ca_dismiss_48 rfl 0 rfl ?_
  refine g_getr (ci := 0) C 0 rfl kI0 rfl (by decide) rfl rfl wf_0_9 D_Ca_dismiss_49 ?_
  refine g_iload C D_Ca_dismiss_52 6 rfl ?_
  refine g_iconst C D_Ca_dismiss_54 ⟨by decide, by decide⟩ ?_
  refine g_iast C rfl rfl D_Ca_dismiss_55 (fun s1 => ?_)
  refine g_aload_n C D_Ca_dismiss_56 rfl 0 rfl ?_
  refine g_getr (ci := 0) C 3 rfl kI0 rfl (by decide) rfl rfl wf_0_21 D_Ca_dismiss_57 ?_
  refine g_iload C D_Ca_dismiss_60 6 rfl ?_
  refine g_iconst C D_Ca_dismiss_62 ⟨by decide, by decide⟩ ?_
  refine g_iast C rfl rfl D_Ca_dismiss_63 (fun s2 => ?_)
  refine g_aload_n C D_Ca_dismiss_64 rfl 0 rfl ?_
  refine g_getr (ci := 0) C 4 rfl kI0 rfl (by decide) rfl rfl wf_0_24 D_Ca_dismiss_65 ?_
  refine g_iload C D_Ca_dismiss_68 6 rfl ?_
  refine g_iconst C D_Ca_dismiss_70 ⟨by decide, by decide⟩ ?_
  refine g_zast C rfl rfl D_Ca_dismiss_71 (fun s3 => ?_)
  refine g_aload_n C D_Ca_dismiss_72 rfl 0 rfl ?_
  refine g_getr (ci := 0) C 5 rfl kI0 rfl (by decide) rfl rfl wf_0_28 D_Ca_dismiss_73 ?_
  refine g_iload C D_Ca_dismiss_76 6 rfl ?_
  refine g_zald C rfl rfl rfl D_Ca_dismiss_78 ?_
  refine g_if_eq (tgt := 93) C D_Ca_dismiss_79 (by decide) ?_ ?_
  · exact wj_Ca_dismiss_93 C hk1 hrec _ _ _
  · refine g_aload_n C D_Ca_dismiss_82 rfl 0 rfl ?_
    refine g_getr (ci := 0) C 6 rfl kI0 rfl (by decide) rfl rfl wf_0_31 D_Ca_dismiss_83 ?_
    refine g_iload C D_Ca_dismiss_86 4 rfl ?_
    refine g_dup2 C D_Ca_dismiss_88 rfl rfl ?_
    refine g_iald C rfl rfl rfl D_Ca_dismiss_89 ?_
    refine g_iconst C D_Ca_dismiss_90 ⟨by decide, by decide⟩ ?_
    refine g_isub C D_Ca_dismiss_91 (fun a4 => ?_)
    refine g_iast C rfl rfl D_Ca_dismiss_92 (fun s5 => ?_)
    exact wj_Ca_dismiss_93 C hk1 hrec _ _ _
def l_Ca_dismiss_12 (k1 : gM → gO) (p1 p2 p3 p4 : Int) (rec : gM → Int → gO) (σ : gM) (v5 : Int) : gO :=
  if v5 < p2 then
  (ga (p4 * 64) fun a1 =>
  ga (a1 + p1) fun a2 =>
  ga (a2 + v5) fun a3 =>
  gi a3 128 <|
  if (σ 10 a3) = 2 then
  (gk (F_Ca_store σ a3 p3) fun s4 _ =>
  j_Ca_dismiss_48 k1 rec s4 p1 p2 p3 p4 v5 a3)
  else
  (j_Ca_dismiss_48 k1 rec σ p1 p2 p3 p4 v5 a3))
  else
  (k1 σ)
set_option maxHeartbeats 4000000 in
theorem wl_Ca_dismiss_12 {X : gX} (C : gC gctC prog_2_method_11_code kR0 7 2 50 (none) X) {p1 p2 p3 p4 : Int} {k1 : gM → gO} (hk1 : ∀ (σ : gM), GG gctC X 107 [(0, .inr (.inr 9)), (1, .inl p1), (2, .inl p2), (3, .inl p3), (4, .inl p4)] [] σ (k1 σ)) : ∀ (n : Nat) (σ : gM) (a0 : Int), GG gctC X 12 [(0, .inr (.inr 9)), (1, .inl p1), (2, .inl p2), (3, .inl p3), (4, .inl p4), (5, .inl a0)] [] σ (gl1 (l_Ca_dismiss_12 k1 p1 p2 p3 p4) n σ a0) := by
  refine gl1_run (P := fun σ a0 o => GG gctC X 12 [(0, .inr (.inr 9)), (1, .inl p1), (2, .inl p2), (3, .inl p3), (4, .inl p4), (5, .inl a0)] [] σ o) (fun _ _ => g_none) (fun rec hrec σ v5 => ?_)
  unfold l_Ca_dismiss_12
  refine g_iload C D_Ca_dismiss_12 5 rfl ?_
  refine g_iload_n C D_Ca_dismiss_14 rfl 2 rfl ?_
  refine g_icmp_ge (tgt := 107) C D_Ca_dismiss_15 (by decide) ?_ ?_
  · refine g_sub [0, 1, 2, 3, 4] rfl ?_
    exact hk1 _
  · refine g_iload C D_Ca_dismiss_18 4 rfl ?_
    refine g_bipush C D_Ca_dismiss_20 (by decide) ⟨by decide, by decide⟩ ?_
    refine g_imul C D_Ca_dismiss_22 (fun a1 => ?_)
    refine g_iload_n C D_Ca_dismiss_23 rfl 1 rfl ?_
    refine g_iadd C D_Ca_dismiss_24 (fun a2 => ?_)
    refine g_iload C D_Ca_dismiss_25 5 rfl ?_
    refine g_iadd C D_Ca_dismiss_27 (fun a3 => ?_)
    refine g_istore (L' := [(6, .inl a3), (0, .inr (.inr 9)), (1, .inl p1), (2, .inl p2), (3, .inl p3), (4, .inl p4), (5, .inl v5)]) C D_Ca_dismiss_28 (by decide) rfl ?_
    refine g_aload_n C D_Ca_dismiss_30 rfl 1 rfl ?_
    refine g_getr (ci := 0) C 0 rfl kI0 rfl (by decide) rfl rfl wf_0_9 D_Ca_dismiss_31 ?_
    refine g_iload C D_Ca_dismiss_34 0 rfl ?_
    refine g_iald C rfl rfl rfl D_Ca_dismiss_36 ?_
    refine g_iconst C D_Ca_dismiss_37 ⟨by decide, by decide⟩ ?_
    refine g_icmp_ne (tgt := 48) C D_Ca_dismiss_38 (by decide) ?_ ?_
    · refine g_sub [1, 2, 3, 4, 5, 6, 0] rfl ?_
      exact wj_Ca_dismiss_48 C hk1 hrec _ _ _
    · refine g_aload_n C D_Ca_dismiss_41 rfl 1 rfl ?_
      refine g_iload C D_Ca_dismiss_42 0 rfl ?_
      refine g_iload_n C D_Ca_dismiss_44 rfl 4 rfl ?_
      refine g_callVv (ci := 0) C [.inl a3, .inl p3] [] rfl rfl (fun _ h1 h2 h3 => c_Ca_store h1 h2 h3) rfl rfl wc_0_93 (by decide) (Nat.le_of_ble_eq_true rfl) D_Ca_dismiss_45 (fun s4 _ => ?_)
      refine g_sub [1, 2, 3, 4, 5, 6, 0] rfl ?_
      exact wj_Ca_dismiss_48 C hk1 hrec _ _ _
def l_Ca_dismiss_3 (p1 p2 p3 : Int) (rec : gM → Int → gO) (σ : gM) (v4 : Int) : gO :=
  if v4 < 2 then
  (gl1 (l_Ca_dismiss_12 (fun s1 => ga (v4 + 1) fun a2 =>
  rec s1 a2) p1 p2 p3 v4) 200 σ 0)
  else
  (some (σ, 0))
set_option maxHeartbeats 4000000 in
theorem wl_Ca_dismiss_3 {X : gX} (C : gC gctC prog_2_method_11_code kR0 7 2 50 (none) X) {p1 p2 p3 : Int} : ∀ (n : Nat) (σ : gM) (a0 : Int), GG gctC X 3 [(0, .inr (.inr 9)), (1, .inl p1), (2, .inl p2), (3, .inl p3), (4, .inl a0)] [] σ (gl1 (l_Ca_dismiss_3 p1 p2 p3) n σ a0) := by
  refine gl1_run (P := fun σ a0 o => GG gctC X 3 [(0, .inr (.inr 9)), (1, .inl p1), (2, .inl p2), (3, .inl p3), (4, .inl a0)] [] σ o) (fun _ _ => g_none) (fun rec hrec σ v4 => ?_)
  unfold l_Ca_dismiss_3
  refine g_iload C D_Ca_dismiss_3 4 rfl ?_
  refine g_iconst C D_Ca_dismiss_5 ⟨by decide, by decide⟩ ?_
  refine g_icmp_ge (tgt := 113) C D_Ca_dismiss_6 (by decide) ?_ ?_
  · exact g_vret C D_Ca_dismiss_113
  · refine g_iconst C D_Ca_dismiss_9 ⟨by decide, by decide⟩ ?_
    refine g_istore (L' := [(5, .inl 0), (0, .inr (.inr 9)), (1, .inl p1), (2, .inl p2), (3, .inl p3), (4, .inl v4)]) C D_Ca_dismiss_10 (by decide) rfl ?_
    refine g_sub [1, 2, 3, 4, 5, 0] rfl ?_
    exact wl_Ca_dismiss_12 C (fun s1 => by
        refine g_iinc (t := 4) (L' := fun z => [(4, .inl z), (0, .inr (.inr 9)), (1, .inl p1), (2, .inl p2), (3, .inl p3)]) C D_Ca_dismiss_107 rfl (by decide) (fun _ => rfl) (fun a2 => ?_)
        refine g_goto (tgt := 3) C D_Ca_dismiss_110 (by decide) ?_
        refine g_sub [1, 2, 3, 4, 0] rfl ?_
        exact hrec _ _) 200 _ _
def F_Ca_dismiss (σ : gM) (v1 v2 v3 : Int) : gO :=
  gl1 (l_Ca_dismiss_3 v1 v2 v3) 200 σ 0
set_option maxHeartbeats 4000000 in
theorem w_Ca_dismiss {X : gX} (C : gC gctC prog_2_method_11_code kR0 7 2 50 (none) X) (σ : gM) (v1 v2 v3 : Int) : GG gctC X 0 [(0, .inr (.inr 9)), (1, .inl v1), (2, .inl v2), (3, .inl v3)] [] σ (F_Ca_dismiss σ v1 v2 v3) := by
  unfold F_Ca_dismiss
  refine g_iconst C D_Ca_dismiss_0 ⟨by decide, by decide⟩ ?_
  refine g_istore (L' := [(4, .inl 0), (0, .inr (.inr 9)), (1, .inl v1), (2, .inl v2), (3, .inl v3)]) C D_Ca_dismiss_1 (by decide) rfl ?_
  refine g_sub [1, 2, 3, 4, 0] rfl ?_
  exact wl_Ca_dismiss_3 C 200 _ _
theorem c_Ca_dismiss {σ : gM} {v1 v2 v3 : Int} {r : gR} (ho : F_Ca_dismiss σ v1 v2 v3 = some r) (hok : gOk [.inr (.inr 9), .inl v1, .inl v2, .inl v3]) (hin : gIn gctC σ) : gCt gctC Y_Ca_dismiss prog_2_method_11_code 7 (none) 2 50 [.inr (.inr 9), .inl v1, .inl v2, .inl v3] σ r := g_entry (by decide) rfl (Nat.le_of_ble_eq_true rfl) ho hok hin (fun X C => w_Ca_dismiss C σ v1 v2 v3)
theorem D_Ca_reshape_0 : decode prog_2_method_12_code 0 = .ok (.aload_n 0, 1) := by decide +kernel
theorem D_Ca_reshape_1 : decode prog_2_method_12_code 1 = .ok (.iconst 0, 1) := by decide +kernel
theorem D_Ca_reshape_2 : decode prog_2_method_12_code 2 = .ok (.bipush 64, 2) := by decide +kernel
theorem D_Ca_reshape_4 : decode prog_2_method_12_code 4 = .ok (.iconst (-1), 1) := by decide +kernel
theorem D_Ca_reshape_5 : decode prog_2_method_12_code 5 = .ok (.invokevirtual 109, 3) := by decide +kernel
theorem D_Ca_reshape_8 : decode prog_2_method_12_code 8 = .ok (.aload_n 0, 1) := by decide +kernel
theorem D_Ca_reshape_9 : decode prog_2_method_12_code 9 = .ok (.iload_n 1, 1) := by decide +kernel
theorem D_Ca_reshape_10 : decode prog_2_method_12_code 10 = .ok (.putfield 34, 3) := by decide +kernel
theorem D_Ca_reshape_13 : decode prog_2_method_12_code 13 = .ok (.aload_n 0, 1) := by decide +kernel
theorem D_Ca_reshape_14 : decode prog_2_method_12_code 14 = .ok (.iload_n 2, 1) := by decide +kernel
theorem D_Ca_reshape_15 : decode prog_2_method_12_code 15 = .ok (.putfield 38, 3) := by decide +kernel
theorem D_Ca_reshape_18 : decode prog_2_method_12_code 18 = .ok (.return_, 1) := by decide +kernel
def F_Ca_reshape (σ : gM) (v1 v2 : Int) : gO :=
  gk (F_Ca_dismiss σ 0 64 (-1)) fun s1 _ =>
  gp s1 9 7 v1 fun s2 =>
  gp s2 9 8 v2 fun s3 =>
  some (s3, 0)
set_option maxHeartbeats 4000000 in
theorem w_Ca_reshape {X : gX} (C : gC gctC prog_2_method_12_code kR0 3 3 76 (none) X) (σ : gM) (v1 v2 : Int) : GG gctC X 0 [(0, .inr (.inr 9)), (1, .inl v1), (2, .inl v2)] [] σ (F_Ca_reshape σ v1 v2) := by
  unfold F_Ca_reshape
  refine g_aload_n C D_Ca_reshape_0 rfl 0 rfl ?_
  refine g_iconst C D_Ca_reshape_1 ⟨by decide, by decide⟩ ?_
  refine g_bipush C D_Ca_reshape_2 (by decide) ⟨by decide, by decide⟩ ?_
  refine g_iconst C D_Ca_reshape_4 ⟨by decide, by decide⟩ ?_
  refine g_callVv (ci := 0) C [.inl 0, .inl 64, .inl (-1)] [] rfl rfl (fun _ h1 h2 h3 => c_Ca_dismiss h1 h2 h3) rfl rfl wc_0_109 (by decide) (Nat.le_of_ble_eq_true rfl) D_Ca_reshape_5 (fun s1 _ => ?_)
  refine g_aload_n C D_Ca_reshape_8 rfl 0 rfl ?_
  refine g_iload_n C D_Ca_reshape_9 rfl 1 rfl ?_
  refine g_putI (ci := 0) C 7 (jz := 7) rfl rfl kI0 kO0 kN0 rfl (by decide) rfl rfl wf_0_34 D_Ca_reshape_10 (fun s2 => ?_)
  refine g_aload_n C D_Ca_reshape_13 rfl 0 rfl ?_
  refine g_iload_n C D_Ca_reshape_14 rfl 2 rfl ?_
  refine g_putI (ci := 0) C 8 (jz := 8) rfl rfl kI0 kO0 kN0 rfl (by decide) rfl rfl wf_0_38 D_Ca_reshape_15 (fun s3 => ?_)
  exact g_vret C D_Ca_reshape_18
theorem c_Ca_reshape {σ : gM} {v1 v2 : Int} {r : gR} (ho : F_Ca_reshape σ v1 v2 = some r) (hok : gOk [.inr (.inr 9), .inl v1, .inl v2]) (hin : gIn gctC σ) : gCt gctC Y_Ca_reshape prog_2_method_12_code 3 (none) 3 76 [.inr (.inr 9), .inl v1, .inl v2] σ r := g_entry (by decide) rfl (Nat.le_of_ble_eq_true rfl) ho hok hin (fun X C => w_Ca_reshape C σ v1 v2)
theorem D_Ce_outcome_0 : decode prog_3_method_5_code 0 = .ok (.iload_n 0, 1) := by decide +kernel
theorem D_Ce_outcome_1 : decode prog_3_method_5_code 1 = .ok (.invokestatic 28, 3) := by decide +kernel
theorem D_Ce_outcome_4 : decode prog_3_method_5_code 4 = .ok (.istore_n 1, 1) := by decide +kernel
theorem D_Ce_outcome_5 : decode prog_3_method_5_code 5 = .ok (.iload_n 1, 1) := by decide +kernel
theorem D_Ce_outcome_6 : decode prog_3_method_5_code 6 = .ok (.bipush (-5), 2) := by decide +kernel
theorem D_Ce_outcome_8 : decode prog_3_method_5_code 8 = .ok (.if_icmp .ne 5, 3) := by decide +kernel
theorem D_Ce_outcome_11 : decode prog_3_method_5_code 11 = .ok (.iconst 1, 1) := by decide +kernel
theorem D_Ce_outcome_12 : decode prog_3_method_5_code 12 = .ok (.ireturn, 1) := by decide +kernel
theorem D_Ce_outcome_13 : decode prog_3_method_5_code 13 = .ok (.iload_n 1, 1) := by decide +kernel
theorem D_Ce_outcome_14 : decode prog_3_method_5_code 14 = .ok (.invokestatic 32, 3) := by decide +kernel
theorem D_Ce_outcome_17 : decode prog_3_method_5_code 17 = .ok (.ifCond .ne 7, 3) := by decide +kernel
theorem D_Ce_outcome_20 : decode prog_3_method_5_code 20 = .ok (.iconst 0, 1) := by decide +kernel
theorem D_Ce_outcome_21 : decode prog_3_method_5_code 21 = .ok (.goto 4, 3) := by decide +kernel
theorem D_Ce_outcome_24 : decode prog_3_method_5_code 24 = .ok (.iconst 2, 1) := by decide +kernel
theorem D_Ce_outcome_25 : decode prog_3_method_5_code 25 = .ok (.ireturn, 1) := by decide +kernel
def j_Ce_outcome_25 (σ : gM) (t0 : Int) : gO :=
  some (σ, t0)
set_option maxHeartbeats 4000000 in
theorem wj_Ce_outcome_25 {X : gX} (C : gC gctC prog_3_method_5_code kR1 2 1 23 (some .int) X) (σ : gM) (t0 : Int) : GG gctC X 25 [] [.inl t0] σ (j_Ce_outcome_25 σ t0) := by
  unfold j_Ce_outcome_25
  exact g_iret C D_Ce_outcome_25
def F_Ce_outcome (σ : gM) (v0 : Int) : gO :=
  gk (F_Ce_righted σ v0) fun s1 a2 =>
  if a2 = (-5) then
  (some (s1, 1))
  else
  (gk (F_Ce_valueOf s1 a2) fun s3 a4 =>
  if a4 = 0 then
  (j_Ce_outcome_25 s3 0)
  else
  (j_Ce_outcome_25 s3 2))
set_option maxHeartbeats 4000000 in
theorem w_Ce_outcome {X : gX} (C : gC gctC prog_3_method_5_code kR1 2 1 23 (some .int) X) (σ : gM) (v0 : Int) : GG gctC X 0 [(0, .inl v0)] [] σ (F_Ce_outcome σ v0) := by
  unfold F_Ce_outcome
  refine g_iload_n C D_Ce_outcome_0 rfl 0 rfl ?_
  refine g_callSi C [.inl v0] [] (Or.inl rfl) rfl (fun _ h1 h2 h3 => c_Ce_righted h1 h2 h3) wc_1_28 (by decide) (Nat.le_of_ble_eq_true rfl) D_Ce_outcome_1 (fun s1 a2 => ?_)
  refine g_istore_n (L' := [(1, .inl a2), (0, .inl v0)]) C D_Ce_outcome_4 rfl (by decide) rfl ?_
  refine g_iload_n C D_Ce_outcome_5 rfl 0 rfl ?_
  refine g_bipush C D_Ce_outcome_6 (by decide) ⟨by decide, by decide⟩ ?_
  refine g_icmp_ne (tgt := 13) C D_Ce_outcome_8 (by decide) ?_ ?_
  · refine g_iload_n C D_Ce_outcome_13 rfl 0 rfl ?_
    refine g_callSi C [.inl a2] [] (Or.inl rfl) rfl (fun _ h1 h2 h3 => c_Ce_valueOf h1 h2 h3) wc_1_32 (by decide) (Nat.le_of_ble_eq_true rfl) D_Ce_outcome_14 (fun s3 a4 => ?_)
    refine g_if_ne (tgt := 24) C D_Ce_outcome_17 (by decide) ?_ ?_
    · refine g_iconst C D_Ce_outcome_24 ⟨by decide, by decide⟩ ?_
      refine g_sub [] rfl ?_
      exact wj_Ce_outcome_25 C _ _
    · refine g_iconst C D_Ce_outcome_20 ⟨by decide, by decide⟩ ?_
      refine g_goto (tgt := 25) C D_Ce_outcome_21 (by decide) ?_
      refine g_sub [] rfl ?_
      exact wj_Ce_outcome_25 C _ _
  · refine g_iconst C D_Ce_outcome_11 ⟨by decide, by decide⟩ ?_
    exact g_iret C D_Ce_outcome_12
theorem c_Ce_outcome {σ : gM} {v0 : Int} {r : gR} (ho : F_Ce_outcome σ v0 = some r) (hok : gOk [.inl v0]) (hin : gIn gctC σ) : gCt gctC Y_Ce_outcome prog_3_method_5_code 2 (some .int) 1 23 [.inl v0] σ r := g_entry (by decide) rfl (Nat.le_of_ble_eq_true rfl) ho hok hin (fun X C => w_Ce_outcome C σ v0)
