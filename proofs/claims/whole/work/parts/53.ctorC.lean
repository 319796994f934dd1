/-! the constructors of the class, by program -/
/-! CellToObject$Ledger -/
theorem dn_Le_0 : decode prog_5_method_1_code 0 = .ok (.aload_n 0, 1) := by decide +kernel
theorem dn_Le_1 : decode prog_5_method_1_code 1 = .ok (.invokespecial 3, 3) := by decide +kernel
theorem dn_Le_4 : decode prog_5_method_1_code 4 = .ok (.aload_n 0, 1) := by decide +kernel
theorem dn_Le_5 : decode prog_5_method_1_code 5 = .ok (.bipush 8, 2) := by decide +kernel
theorem dn_Le_7 : decode prog_5_method_1_code 7 = .ok (.newarray .int, 2) := by decide +kernel
theorem dn_Le_9 : decode prog_5_method_1_code 9 = .ok (.putfield 9, 3) := by decide +kernel
theorem dn_Le_12 : decode prog_5_method_1_code 12 = .ok (.aload_n 0, 1) := by decide +kernel
theorem dn_Le_13 : decode prog_5_method_1_code 13 = .ok (.bipush 16, 2) := by decide +kernel
theorem dn_Le_15 : decode prog_5_method_1_code 15 = .ok (.newarray .int, 2) := by decide +kernel
theorem dn_Le_17 : decode prog_5_method_1_code 17 = .ok (.putfield 15, 3) := by decide +kernel
theorem dn_Le_20 : decode prog_5_method_1_code 20 = .ok (.return_, 1) := by decide +kernel
def nT_Le_0 : nT := [(2, .inr (3, nvs kY3 3))]
theorem nwm_3_3 : Cond.methodLink kR3 3 objectInit ∈ gTb := gmem 83 (by decide +kernel) (by decide +kernel)
theorem nwo_1 : Cond.instanceMethod objectInit ∈ gTb := gmem 76 (by decide +kernel) (by decide +kernel)
theorem nwo_2 : Cond.code objectInit ⟨#[0xb1]⟩ 1 none ∈ gTb := gmem 77 (by decide +kernel) (by decide +kernel)
theorem nwa_int : Cond.arrayClass .int ∈ gTb := gmem 97 (by decide +kernel) (by decide +kernel)
def nT_Le_1 : nT := [(2, .inr (3, [none, none, nint 0])), (3, .inl (0, (8, z0)))]
theorem nwf_3_9 : Cond.fieldLink kR3 9 kR3 "blamed" "[I" ∈ gTb := gmem 84 (by decide +kernel) (by decide +kernel)
def nT_Le_2 : nT := [(2, .inr (3, [nref 3, none, nint 0])), (3, .inl (0, (8, z0)))]
def nT_Le_3 : nT := [(2, .inr (3, [nref 3, none, nint 0])), (3, .inl (0, (8, z0))), (4, .inl (0, (16, z0)))]
theorem nwf_3_15 : Cond.fieldLink kR3 15 kR3 "tally" "[I" ∈ gTb := gmem 86 (by decide +kernel) (by decide +kernel)
def nT_Le_4 : nT := [(2, .inr (3, [nref 3, nref 4, nint 0])), (3, .inl (0, (8, z0))), (4, .inl (0, (16, z0)))]
set_option maxRecDepth 20000 in
set_option maxHeartbeats 4000000 in
theorem cn_Le : nCt Yn_Ledger prog_5_method_1_code 1 1 12 2 24 3 [nref 2] [(2, .inr (3, nvs kY3 3))] nT_Le_4 := n_entry (by decide) rfl rfl (by decide) fun X C => by
  show NN 3 X 0 [(0, nref 2)] [] nT_Le_0 0 0
  refine n_aload_n C dn_Le_0 rfl 0 rfl ?_
  refine n_objInit C nwm_3_3 nwo_1 nwo_2 (by decide) (by decide) dn_Le_1 ?_
  refine n_aload_n C dn_Le_4 rfl 0 rfl ?_
  refine n_bipush C dn_Le_5 (by decide) ?_
  refine n_newi C (n := 8) (id := 3) (T' := nT_Le_1) nwa_int (by decide) rfl rfl (by decide) (k' := 1) (j' := 8) rfl rfl (by decide) (by decide) rfl dn_Le_7 ?_
  refine n_put C (pos := 0) (f := 0) (ci := 3) (id := 2) (T' := nT_Le_2) (d := "[I") (fin := true) rfl kI3 kO3 kN3 rfl (by decide) rfl rfl nwf_3_9 (ty := kY3 0) (by decide +kernel) (fun _ => rfl) (fun _ => rfl) (by decide) dn_Le_9 ?_
  refine n_aload_n C dn_Le_12 rfl 0 rfl ?_
  refine n_bipush C dn_Le_13 (by decide) ?_
  refine n_newi C (n := 16) (id := 4) (T' := nT_Le_3) nwa_int (by decide) rfl rfl (by decide) (k' := 2) (j' := 24) rfl rfl (by decide) (by decide) rfl dn_Le_15 ?_
  refine n_put C (pos := 0) (f := 1) (ci := 3) (id := 2) (T' := nT_Le_4) (d := "[I") (fin := true) rfl kI3 kO3 kN3 rfl (by decide) rfl rfl nwf_3_15 (ty := kY3 1) (by decide +kernel) (fun _ => rfl) (fun _ => rfl) (by decide) dn_Le_17 ?_
  exact n_vret C dn_Le_20
/-! CellToObject$Cells -/
def Yn_Cells : MethodName := ⟨kR1, "<init>", "(LCellToObject$Ledger;)V"⟩
theorem dn_Ce_0 : decode prog_3_method_1_code 0 = .ok (.aload_n 0, 1) := by decide +kernel
theorem dn_Ce_1 : decode prog_3_method_1_code 1 = .ok (.invokespecial 3, 3) := by decide +kernel
theorem dn_Ce_4 : decode prog_3_method_1_code 4 = .ok (.aload_n 0, 1) := by decide +kernel
theorem dn_Ce_5 : decode prog_3_method_1_code 5 = .ok (.sipush 512, 3) := by decide +kernel
theorem dn_Ce_8 : decode prog_3_method_1_code 8 = .ok (.newarray .int, 2) := by decide +kernel
theorem dn_Ce_10 : decode prog_3_method_1_code 10 = .ok (.putfield 9, 3) := by decide +kernel
theorem dn_Ce_13 : decode prog_3_method_1_code 13 = .ok (.aload_n 0, 1) := by decide +kernel
theorem dn_Ce_14 : decode prog_3_method_1_code 14 = .ok (.bipush 64, 2) := by decide +kernel
theorem dn_Ce_16 : decode prog_3_method_1_code 16 = .ok (.newarray .int, 2) := by decide +kernel
theorem dn_Ce_18 : decode prog_3_method_1_code 18 = .ok (.putfield 15, 3) := by decide +kernel
theorem dn_Ce_21 : decode prog_3_method_1_code 21 = .ok (.aload_n 0, 1) := by decide +kernel
theorem dn_Ce_22 : decode prog_3_method_1_code 22 = .ok (.iconst 4, 1) := by decide +kernel
theorem dn_Ce_23 : decode prog_3_method_1_code 23 = .ok (.newarray .int, 2) := by decide +kernel
theorem dn_Ce_25 : decode prog_3_method_1_code 25 = .ok (.dup, 1) := by decide +kernel
theorem dn_Ce_26 : decode prog_3_method_1_code 26 = .ok (.iconst 0, 1) := by decide +kernel
theorem dn_Ce_27 : decode prog_3_method_1_code 27 = .ok (.bipush (-4), 2) := by decide +kernel
theorem dn_Ce_29 : decode prog_3_method_1_code 29 = .ok (.iastore, 1) := by decide +kernel
theorem dn_Ce_30 : decode prog_3_method_1_code 30 = .ok (.dup, 1) := by decide +kernel
theorem dn_Ce_31 : decode prog_3_method_1_code 31 = .ok (.iconst 1, 1) := by decide +kernel
theorem dn_Ce_32 : decode prog_3_method_1_code 32 = .ok (.bipush (-4), 2) := by decide +kernel
theorem dn_Ce_34 : decode prog_3_method_1_code 34 = .ok (.iastore, 1) := by decide +kernel
theorem dn_Ce_35 : decode prog_3_method_1_code 35 = .ok (.dup, 1) := by decide +kernel
theorem dn_Ce_36 : decode prog_3_method_1_code 36 = .ok (.iconst 2, 1) := by decide +kernel
theorem dn_Ce_37 : decode prog_3_method_1_code 37 = .ok (.bipush (-4), 2) := by decide +kernel
theorem dn_Ce_39 : decode prog_3_method_1_code 39 = .ok (.iastore, 1) := by decide +kernel
theorem dn_Ce_40 : decode prog_3_method_1_code 40 = .ok (.dup, 1) := by decide +kernel
theorem dn_Ce_41 : decode prog_3_method_1_code 41 = .ok (.iconst 3, 1) := by decide +kernel
theorem dn_Ce_42 : decode prog_3_method_1_code 42 = .ok (.bipush (-4), 2) := by decide +kernel
theorem dn_Ce_44 : decode prog_3_method_1_code 44 = .ok (.iastore, 1) := by decide +kernel
theorem dn_Ce_45 : decode prog_3_method_1_code 45 = .ok (.putfield 18, 3) := by decide +kernel
theorem dn_Ce_48 : decode prog_3_method_1_code 48 = .ok (.aload_n 0, 1) := by decide +kernel
theorem dn_Ce_49 : decode prog_3_method_1_code 49 = .ok (.aload_n 1, 1) := by decide +kernel
theorem dn_Ce_50 : decode prog_3_method_1_code 50 = .ok (.putfield 21, 3) := by decide +kernel
theorem dn_Ce_53 : decode prog_3_method_1_code 53 = .ok (.return_, 1) := by decide +kernel
def nT_Ce_0 : nT := [(5, .inr (1, nvs kY1 5))]
theorem nwm_1_3 : Cond.methodLink kR1 3 objectInit ∈ gTb := gmem 103 (by decide +kernel) (by decide +kernel)
def nT_Ce_1 : nT := [(5, .inr (1, [none, none, none, nint 0, none])), (6, .inl (0, (512, z0)))]
theorem nwf_1_9 : Cond.fieldLink kR1 9 kR1 "bits" "[I" ∈ gTb := gmem 104 (by decide +kernel) (by decide +kernel)
def nT_Ce_2 : nT := [(5, .inr (1, [nref 6, none, none, nint 0, none])), (6, .inl (0, (512, z0)))]
def nT_Ce_3 : nT := [(5, .inr (1, [nref 6, none, none, nint 0, none])), (6, .inl (0, (512, z0))), (7, .inl (0, (64, z0)))]
theorem nwf_1_15 : Cond.fieldLink kR1 15 kR1 "wear" "[I" ∈ gTb := gmem 108 (by decide +kernel) (by decide +kernel)
def nT_Ce_4 : nT := [(5, .inr (1, [nref 6, nref 7, none, nint 0, none])), (6, .inl (0, (512, z0))), (7, .inl (0, (64, z0)))]
def nT_Ce_5 : nT := [(5, .inr (1, [nref 6, nref 7, none, nint 0, none])), (6, .inl (0, (512, z0))), (7, .inl (0, (64, z0))), (8, .inl (0, (4, z0)))]
def nT_Ce_6 : nT := [(5, .inr (1, [nref 6, nref 7, none, nint 0, none])), (6, .inl (0, (512, z0))), (7, .inl (0, (64, z0))), (8, .inl (0, (4, nset z0 0 (-4))))]
def nT_Ce_7 : nT := [(5, .inr (1, [nref 6, nref 7, none, nint 0, none])), (6, .inl (0, (512, z0))), (7, .inl (0, (64, z0))), (8, .inl (0, (4, nset (nset z0 0 (-4)) 1 (-4))))]
def nT_Ce_8 : nT := [(5, .inr (1, [nref 6, nref 7, none, nint 0, none])), (6, .inl (0, (512, z0))), (7, .inl (0, (64, z0))), (8, .inl (0, (4, nset (nset (nset z0 0 (-4)) 1 (-4)) 2 (-4))))]
def nT_Ce_9 : nT := [(5, .inr (1, [nref 6, nref 7, none, nint 0, none])), (6, .inl (0, (512, z0))), (7, .inl (0, (64, z0))), (8, .inl (0, (4, nset (nset (nset (nset z0 0 (-4)) 1 (-4)) 2 (-4)) 3 (-4))))]
theorem nwf_1_18 : Cond.fieldLink kR1 18 kR1 "openRow" "[I" ∈ gTb := gmem 110 (by decide +kernel) (by decide +kernel)
def nT_Ce_10 : nT := [(5, .inr (1, [nref 6, nref 7, nref 8, nint 0, none])), (6, .inl (0, (512, z0))), (7, .inl (0, (64, z0))), (8, .inl (0, (4, nset (nset (nset (nset z0 0 (-4)) 1 (-4)) 2 (-4)) 3 (-4))))]
theorem nwf_1_21 : Cond.fieldLink kR1 21 kR1 "ledger" "LCellToObject$Ledger;" ∈ gTb := gmem 114 (by decide +kernel) (by decide +kernel)
def nT_Ce_11 : nT := [(5, .inr (1, [nref 6, nref 7, nref 8, nint 0, nref 2])), (6, .inl (0, (512, z0))), (7, .inl (0, (64, z0))), (8, .inl (0, (4, nset (nset (nset (nset z0 0 (-4)) 1 (-4)) 2 (-4)) 3 (-4))))]
set_option maxRecDepth 20000 in
set_option maxHeartbeats 4000000 in
theorem cn_Ce : nCt Yn_Cells prog_3_method_1_code 2 1 12 3 580 6 [nref 5, nref 2] [(5, .inr (1, nvs kY1 5))] nT_Ce_11 := n_entry (by decide) rfl rfl (by decide) fun X C => by
  show NN 6 X 0 [(0, nref 5), (1, nref 2)] [] nT_Ce_0 0 0
  refine n_aload_n C dn_Ce_0 rfl 0 rfl ?_
  refine n_objInit C nwm_1_3 nwo_1 nwo_2 (by decide) (by decide) dn_Ce_1 ?_
  refine n_aload_n C dn_Ce_4 rfl 0 rfl ?_
  refine n_sipush C dn_Ce_5 (by decide) ?_
  refine n_newi C (n := 512) (id := 6) (T' := nT_Ce_1) nwa_int (by decide) rfl rfl (by decide) (k' := 1) (j' := 512) rfl rfl (by decide) (by decide) rfl dn_Ce_8 ?_
  refine n_put C (pos := 0) (f := 0) (ci := 1) (id := 5) (T' := nT_Ce_2) (d := "[I") (fin := true) rfl kI1 kO1 kN1 rfl (by decide) rfl rfl nwf_1_9 (ty := kY1 0) (by decide +kernel) (fun _ => rfl) (fun _ => rfl) (by decide) dn_Ce_10 ?_
  refine n_aload_n C dn_Ce_13 rfl 0 rfl ?_
  refine n_bipush C dn_Ce_14 (by decide) ?_
  refine n_newi C (n := 64) (id := 7) (T' := nT_Ce_3) nwa_int (by decide) rfl rfl (by decide) (k' := 2) (j' := 576) rfl rfl (by decide) (by decide) rfl dn_Ce_16 ?_
  refine n_put C (pos := 0) (f := 1) (ci := 1) (id := 5) (T' := nT_Ce_4) (d := "[I") (fin := true) rfl kI1 kO1 kN1 rfl (by decide) rfl rfl nwf_1_15 (ty := kY1 1) (by decide +kernel) (fun _ => rfl) (fun _ => rfl) (by decide) dn_Ce_18 ?_
  refine n_aload_n C dn_Ce_21 rfl 0 rfl ?_
  refine n_iconst C dn_Ce_22 ?_
  refine n_newi C (n := 4) (id := 8) (T' := nT_Ce_5) nwa_int (by decide) rfl rfl (by decide) (k' := 3) (j' := 580) rfl rfl (by decide) (by decide) rfl dn_Ce_23 ?_
  refine n_dup C rfl dn_Ce_25 ?_
  refine n_iconst C dn_Ce_26 ?_
  refine n_bipush C dn_Ce_27 (by decide) ?_
  refine n_iast C (pos := 3) (T' := nT_Ce_6) rfl (by decide) ⟨by decide, by decide⟩ rfl dn_Ce_29 ?_
  refine n_dup C rfl dn_Ce_30 ?_
  refine n_iconst C dn_Ce_31 ?_
  refine n_bipush C dn_Ce_32 (by decide) ?_
  refine n_iast C (pos := 3) (T' := nT_Ce_7) rfl (by decide) ⟨by decide, by decide⟩ rfl dn_Ce_34 ?_
  refine n_dup C rfl dn_Ce_35 ?_
  refine n_iconst C dn_Ce_36 ?_
  refine n_bipush C dn_Ce_37 (by decide) ?_
  refine n_iast C (pos := 3) (T' := nT_Ce_8) rfl (by decide) ⟨by decide, by decide⟩ rfl dn_Ce_39 ?_
  refine n_dup C rfl dn_Ce_40 ?_
  refine n_iconst C dn_Ce_41 ?_
  refine n_bipush C dn_Ce_42 (by decide) ?_
  refine n_iast C (pos := 3) (T' := nT_Ce_9) rfl (by decide) ⟨by decide, by decide⟩ rfl dn_Ce_44 ?_
  refine n_put C (pos := 0) (f := 2) (ci := 1) (id := 5) (T' := nT_Ce_10) (d := "[I") (fin := true) rfl kI1 kO1 kN1 rfl (by decide) rfl rfl nwf_1_18 (ty := kY1 2) (by decide +kernel) (fun _ => rfl) (fun _ => rfl) (by decide) dn_Ce_45 ?_
  refine n_aload_n C dn_Ce_48 rfl 0 rfl ?_
  refine n_aload_n C dn_Ce_49 rfl 1 rfl ?_
  refine n_put C (pos := 0) (f := 4) (ci := 1) (id := 5) (T' := nT_Ce_11) (d := "LCellToObject$Ledger;") (fin := true) rfl kI1 kO1 kN1 rfl (by decide) rfl rfl nwf_1_21 (ty := kY1 4) (by decide +kernel) (fun _ => rfl) (fun _ => rfl) (by decide) dn_Ce_50 ?_
  exact n_vret C dn_Ce_53
/-! CellToObject$Caches -/
def Yn_Caches : MethodName := ⟨kR0, "<init>", "(LCellToObject$Ledger;LCellToObject$Cells;[I)V"⟩
theorem dn_Ca_0 : decode prog_2_method_1_code 0 = .ok (.aload_n 0, 1) := by decide +kernel
theorem dn_Ca_1 : decode prog_2_method_1_code 1 = .ok (.invokespecial 3, 3) := by decide +kernel
theorem dn_Ca_4 : decode prog_2_method_1_code 4 = .ok (.aload_n 0, 1) := by decide +kernel
theorem dn_Ca_5 : decode prog_2_method_1_code 5 = .ok (.sipush 128, 3) := by decide +kernel
theorem dn_Ca_8 : decode prog_2_method_1_code 8 = .ok (.newarray .int, 2) := by decide +kernel
theorem dn_Ca_10 : decode prog_2_method_1_code 10 = .ok (.putfield 9, 3) := by decide +kernel
theorem dn_Ca_13 : decode prog_2_method_1_code 13 = .ok (.aload_n 0, 1) := by decide +kernel
theorem dn_Ca_14 : decode prog_2_method_1_code 14 = .ok (.sipush 1024, 3) := by decide +kernel
theorem dn_Ca_17 : decode prog_2_method_1_code 17 = .ok (.newarray .int, 2) := by decide +kernel
theorem dn_Ca_19 : decode prog_2_method_1_code 19 = .ok (.putfield 15, 3) := by decide +kernel
theorem dn_Ca_22 : decode prog_2_method_1_code 22 = .ok (.aload_n 0, 1) := by decide +kernel
theorem dn_Ca_23 : decode prog_2_method_1_code 23 = .ok (.sipush 128, 3) := by decide +kernel
theorem dn_Ca_26 : decode prog_2_method_1_code 26 = .ok (.newarray .int, 2) := by decide +kernel
theorem dn_Ca_28 : decode prog_2_method_1_code 28 = .ok (.putfield 18, 3) := by decide +kernel
theorem dn_Ca_31 : decode prog_2_method_1_code 31 = .ok (.aload_n 0, 1) := by decide +kernel
theorem dn_Ca_32 : decode prog_2_method_1_code 32 = .ok (.sipush 128, 3) := by decide +kernel
theorem dn_Ca_35 : decode prog_2_method_1_code 35 = .ok (.newarray .int, 2) := by decide +kernel
theorem dn_Ca_37 : decode prog_2_method_1_code 37 = .ok (.putfield 21, 3) := by decide +kernel
theorem dn_Ca_40 : decode prog_2_method_1_code 40 = .ok (.aload_n 0, 1) := by decide +kernel
theorem dn_Ca_41 : decode prog_2_method_1_code 41 = .ok (.sipush 128, 3) := by decide +kernel
theorem dn_Ca_44 : decode prog_2_method_1_code 44 = .ok (.newarray .boolean, 2) := by decide +kernel
theorem dn_Ca_46 : decode prog_2_method_1_code 46 = .ok (.putfield 24, 3) := by decide +kernel
theorem dn_Ca_49 : decode prog_2_method_1_code 49 = .ok (.aload_n 0, 1) := by decide +kernel
theorem dn_Ca_50 : decode prog_2_method_1_code 50 = .ok (.sipush 128, 3) := by decide +kernel
theorem dn_Ca_53 : decode prog_2_method_1_code 53 = .ok (.newarray .boolean, 2) := by decide +kernel
theorem dn_Ca_55 : decode prog_2_method_1_code 55 = .ok (.putfield 28, 3) := by decide +kernel
theorem dn_Ca_58 : decode prog_2_method_1_code 58 = .ok (.aload_n 0, 1) := by decide +kernel
theorem dn_Ca_59 : decode prog_2_method_1_code 59 = .ok (.iconst 2, 1) := by decide +kernel
theorem dn_Ca_60 : decode prog_2_method_1_code 60 = .ok (.newarray .int, 2) := by decide +kernel
theorem dn_Ca_62 : decode prog_2_method_1_code 62 = .ok (.putfield 31, 3) := by decide +kernel
theorem dn_Ca_65 : decode prog_2_method_1_code 65 = .ok (.aload_n 0, 1) := by decide +kernel
theorem dn_Ca_66 : decode prog_2_method_1_code 66 = .ok (.iconst 2, 1) := by decide +kernel
theorem dn_Ca_67 : decode prog_2_method_1_code 67 = .ok (.putfield 34, 3) := by decide +kernel
theorem dn_Ca_70 : decode prog_2_method_1_code 70 = .ok (.aload_n 0, 1) := by decide +kernel
theorem dn_Ca_71 : decode prog_2_method_1_code 71 = .ok (.iconst 2, 1) := by decide +kernel
theorem dn_Ca_72 : decode prog_2_method_1_code 72 = .ok (.putfield 38, 3) := by decide +kernel
theorem dn_Ca_75 : decode prog_2_method_1_code 75 = .ok (.aload_n 0, 1) := by decide +kernel
theorem dn_Ca_76 : decode prog_2_method_1_code 76 = .ok (.aload_n 1, 1) := by decide +kernel
theorem dn_Ca_77 : decode prog_2_method_1_code 77 = .ok (.putfield 41, 3) := by decide +kernel
theorem dn_Ca_80 : decode prog_2_method_1_code 80 = .ok (.aload_n 0, 1) := by decide +kernel
theorem dn_Ca_81 : decode prog_2_method_1_code 81 = .ok (.aload_n 2, 1) := by decide +kernel
theorem dn_Ca_82 : decode prog_2_method_1_code 82 = .ok (.putfield 45, 3) := by decide +kernel
theorem dn_Ca_85 : decode prog_2_method_1_code 85 = .ok (.aload_n 0, 1) := by decide +kernel
theorem dn_Ca_86 : decode prog_2_method_1_code 86 = .ok (.aload_n 3, 1) := by decide +kernel
theorem dn_Ca_87 : decode prog_2_method_1_code 87 = .ok (.putfield 49, 3) := by decide +kernel
theorem dn_Ca_90 : decode prog_2_method_1_code 90 = .ok (.return_, 1) := by decide +kernel
def nT_Ca_0 : nT := [(9, .inr (0, nvs kY0 13))]
theorem nwm_0_3 : Cond.methodLink kR0 3 objectInit ∈ gTb := gmem 131 (by decide +kernel) (by decide +kernel)
def nT_Ca_1 : nT := [(9, .inr (0, [none, none, none, none, none, none, none, nint 0, nint 0, nint 0, none, none, none])), (10, .inl (0, (128, z0)))]
theorem nwf_0_9 : Cond.fieldLink kR0 9 kR0 "state" "[I" ∈ gTb := gmem 132 (by decide +kernel) (by decide +kernel)
def nT_Ca_2 : nT := [(9, .inr (0, [nref 10, none, none, none, none, none, none, nint 0, nint 0, nint 0, none, none, none])), (10, .inl (0, (128, z0)))]
def nT_Ca_3 : nT := [(9, .inr (0, [nref 10, none, none, none, none, none, none, nint 0, nint 0, nint 0, none, none, none])), (10, .inl (0, (128, z0))), (11, .inl (0, (1024, z0)))]
theorem nwf_0_15 : Cond.fieldLink kR0 15 kR0 "bytes" "[I" ∈ gTb := gmem 134 (by decide +kernel) (by decide +kernel)
def nT_Ca_4 : nT := [(9, .inr (0, [nref 10, nref 11, none, none, none, none, none, nint 0, nint 0, nint 0, none, none, none])), (10, .inl (0, (128, z0))), (11, .inl (0, (1024, z0)))]
def nT_Ca_5 : nT := [(9, .inr (0, [nref 10, nref 11, none, none, none, none, none, nint 0, nint 0, nint 0, none, none, none])), (10, .inl (0, (128, z0))), (11, .inl (0, (1024, z0))), (12, .inl (0, (128, z0)))]
theorem nwf_0_18 : Cond.fieldLink kR0 18 kR0 "came" "[I" ∈ gTb := gmem 135 (by decide +kernel) (by decide +kernel)
def nT_Ca_6 : nT := [(9, .inr (0, [nref 10, nref 11, nref 12, none, none, none, none, nint 0, nint 0, nint 0, none, none, none])), (10, .inl (0, (128, z0))), (11, .inl (0, (1024, z0))), (12, .inl (0, (128, z0)))]
def nT_Ca_7 : nT := [(9, .inr (0, [nref 10, nref 11, nref 12, none, none, none, none, nint 0, nint 0, nint 0, none, none, none])), (10, .inl (0, (128, z0))), (11, .inl (0, (1024, z0))), (12, .inl (0, (128, z0))), (13, .inl (0, (128, z0)))]
theorem nwf_0_21 : Cond.fieldLink kR0 21 kR0 "askedAt" "[I" ∈ gTb := gmem 136 (by decide +kernel) (by decide +kernel)
def nT_Ca_8 : nT := [(9, .inr (0, [nref 10, nref 11, nref 12, nref 13, none, none, none, nint 0, nint 0, nint 0, none, none, none])), (10, .inl (0, (128, z0))), (11, .inl (0, (1024, z0))), (12, .inl (0, (128, z0))), (13, .inl (0, (128, z0)))]
theorem nwa_boolean : Cond.arrayClass .boolean ∈ gTb := gmem 173 (by decide +kernel) (by decide +kernel)
def nT_Ca_9 : nT := [(9, .inr (0, [nref 10, nref 11, nref 12, nref 13, none, none, none, nint 0, nint 0, nint 0, none, none, none])), (10, .inl (0, (128, z0))), (11, .inl (0, (1024, z0))), (12, .inl (0, (128, z0))), (13, .inl (0, (128, z0))), (14, .inl (1, (128, z0)))]
theorem nwf_0_24 : Cond.fieldLink kR0 24 kR0 "taken" "[Z" ∈ gTb := gmem 137 (by decide +kernel) (by decide +kernel)
def nT_Ca_10 : nT := [(9, .inr (0, [nref 10, nref 11, nref 12, nref 13, nref 14, none, none, nint 0, nint 0, nint 0, none, none, none])), (10, .inl (0, (128, z0))), (11, .inl (0, (1024, z0))), (12, .inl (0, (128, z0))), (13, .inl (0, (128, z0))), (14, .inl (1, (128, z0)))]
def nT_Ca_11 : nT := [(9, .inr (0, [nref 10, nref 11, nref 12, nref 13, nref 14, none, none, nint 0, nint 0, nint 0, none, none, none])), (10, .inl (0, (128, z0))), (11, .inl (0, (1024, z0))), (12, .inl (0, (128, z0))), (13, .inl (0, (128, z0))), (14, .inl (1, (128, z0))), (15, .inl (1, (128, z0)))]
theorem nwf_0_28 : Cond.fieldLink kR0 28 kR0 "beside" "[Z" ∈ gTb := gmem 138 (by decide +kernel) (by decide +kernel)
def nT_Ca_12 : nT := [(9, .inr (0, [nref 10, nref 11, nref 12, nref 13, nref 14, nref 15, none, nint 0, nint 0, nint 0, none, none, none])), (10, .inl (0, (128, z0))), (11, .inl (0, (1024, z0))), (12, .inl (0, (128, z0))), (13, .inl (0, (128, z0))), (14, .inl (1, (128, z0))), (15, .inl (1, (128, z0)))]
def nT_Ca_13 : nT := [(9, .inr (0, [nref 10, nref 11, nref 12, nref 13, nref 14, nref 15, none, nint 0, nint 0, nint 0, none, none, none])), (10, .inl (0, (128, z0))), (11, .inl (0, (1024, z0))), (12, .inl (0, (128, z0))), (13, .inl (0, (128, z0))), (14, .inl (1, (128, z0))), (15, .inl (1, (128, z0))), (16, .inl (0, (2, z0)))]
theorem nwf_0_31 : Cond.fieldLink kR0 31 kR0 "playing" "[I" ∈ gTb := gmem 139 (by decide +kernel) (by decide +kernel)
def nT_Ca_14 : nT := [(9, .inr (0, [nref 10, nref 11, nref 12, nref 13, nref 14, nref 15, nref 16, nint 0, nint 0, nint 0, none, none, none])), (10, .inl (0, (128, z0))), (11, .inl (0, (1024, z0))), (12, .inl (0, (128, z0))), (13, .inl (0, (128, z0))), (14, .inl (1, (128, z0))), (15, .inl (1, (128, z0))), (16, .inl (0, (2, z0)))]
theorem nwf_0_34 : Cond.fieldLink kR0 34 kR0 "sets" "I" ∈ gTb := gmem 140 (by decide +kernel) (by decide +kernel)
def nT_Ca_15 : nT := [(9, .inr (0, [nref 10, nref 11, nref 12, nref 13, nref 14, nref 15, nref 16, nint 2, nint 0, nint 0, none, none, none])), (10, .inl (0, (128, z0))), (11, .inl (0, (1024, z0))), (12, .inl (0, (128, z0))), (13, .inl (0, (128, z0))), (14, .inl (1, (128, z0))), (15, .inl (1, (128, z0))), (16, .inl (0, (2, z0)))]
theorem nwf_0_38 : Cond.fieldLink kR0 38 kR0 "ways" "I" ∈ gTb := gmem 141 (by decide +kernel) (by decide +kernel)
def nT_Ca_16 : nT := [(9, .inr (0, [nref 10, nref 11, nref 12, nref 13, nref 14, nref 15, nref 16, nint 2, nint 2, nint 0, none, none, none])), (10, .inl (0, (128, z0))), (11, .inl (0, (1024, z0))), (12, .inl (0, (128, z0))), (13, .inl (0, (128, z0))), (14, .inl (1, (128, z0))), (15, .inl (1, (128, z0))), (16, .inl (0, (2, z0)))]
theorem nwf_0_41 : Cond.fieldLink kR0 41 kR0 "ledger" "LCellToObject$Ledger;" ∈ gTb := gmem 143 (by decide +kernel) (by decide +kernel)
def nT_Ca_17 : nT := [(9, .inr (0, [nref 10, nref 11, nref 12, nref 13, nref 14, nref 15, nref 16, nint 2, nint 2, nint 0, nref 2, none, none])), (10, .inl (0, (128, z0))), (11, .inl (0, (1024, z0))), (12, .inl (0, (128, z0))), (13, .inl (0, (128, z0))), (14, .inl (1, (128, z0))), (15, .inl (1, (128, z0))), (16, .inl (0, (2, z0)))]
theorem nwf_0_45 : Cond.fieldLink kR0 45 kR0 "cells" "LCellToObject$Cells;" ∈ gTb := gmem 144 (by decide +kernel) (by decide +kernel)
def nT_Ca_18 : nT := [(9, .inr (0, [nref 10, nref 11, nref 12, nref 13, nref 14, nref 15, nref 16, nint 2, nint 2, nint 0, nref 2, nref 5, none])), (10, .inl (0, (128, z0))), (11, .inl (0, (1024, z0))), (12, .inl (0, (128, z0))), (13, .inl (0, (128, z0))), (14, .inl (1, (128, z0))), (15, .inl (1, (128, z0))), (16, .inl (0, (2, z0)))]
theorem nwf_0_49 : Cond.fieldLink kR0 49 kR0 "rules" "[I" ∈ gTb := gmem 145 (by decide +kernel) (by decide +kernel)
def nT_Ca_19 : nT := [(9, .inr (0, [nref 10, nref 11, nref 12, nref 13, nref 14, nref 15, nref 16, nint 2, nint 2, nint 0, nref 2, nref 5, nref 1])), (10, .inl (0, (128, z0))), (11, .inl (0, (1024, z0))), (12, .inl (0, (128, z0))), (13, .inl (0, (128, z0))), (14, .inl (1, (128, z0))), (15, .inl (1, (128, z0))), (16, .inl (0, (2, z0)))]
set_option maxRecDepth 20000 in
set_option maxHeartbeats 4000000 in
theorem cn_Ca : nCt Yn_Caches prog_2_method_1_code 4 1 12 7 1666 10 [nref 9, nref 2, nref 5, nref 1] [(9, .inr (0, nvs kY0 13))] nT_Ca_19 := n_entry (by decide) rfl rfl (by decide) fun X C => by
  show NN 10 X 0 [(0, nref 9), (1, nref 2), (2, nref 5), (3, nref 1)] [] nT_Ca_0 0 0
  refine n_aload_n C dn_Ca_0 rfl 0 rfl ?_
  refine n_objInit C nwm_0_3 nwo_1 nwo_2 (by decide) (by decide) dn_Ca_1 ?_
  refine n_aload_n C dn_Ca_4 rfl 0 rfl ?_
  refine n_sipush C dn_Ca_5 (by decide) ?_
  refine n_newi C (n := 128) (id := 10) (T' := nT_Ca_1) nwa_int (by decide) rfl rfl (by decide) (k' := 1) (j' := 128) rfl rfl (by decide) (by decide) rfl dn_Ca_8 ?_
  refine n_put C (pos := 0) (f := 0) (ci := 0) (id := 9) (T' := nT_Ca_2) (d := "[I") (fin := true) rfl kI0 kO0 kN0 rfl (by decide) rfl rfl nwf_0_9 (ty := kY0 0) (by decide +kernel) (fun _ => rfl) (fun _ => rfl) (by decide) dn_Ca_10 ?_
  refine n_aload_n C dn_Ca_13 rfl 0 rfl ?_
  refine n_sipush C dn_Ca_14 (by decide) ?_
  refine n_newi C (n := 1024) (id := 11) (T' := nT_Ca_3) nwa_int (by decide) rfl rfl (by decide) (k' := 2) (j' := 1152) rfl rfl (by decide) (by decide) rfl dn_Ca_17 ?_
  refine n_put C (pos := 0) (f := 1) (ci := 0) (id := 9) (T' := nT_Ca_4) (d := "[I") (fin := true) rfl kI0 kO0 kN0 rfl (by decide) rfl rfl nwf_0_15 (ty := kY0 1) (by decide +kernel) (fun _ => rfl) (fun _ => rfl) (by decide) dn_Ca_19 ?_
  refine n_aload_n C dn_Ca_22 rfl 0 rfl ?_
  refine n_sipush C dn_Ca_23 (by decide) ?_
  refine n_newi C (n := 128) (id := 12) (T' := nT_Ca_5) nwa_int (by decide) rfl rfl (by decide) (k' := 3) (j' := 1280) rfl rfl (by decide) (by decide) rfl dn_Ca_26 ?_
  refine n_put C (pos := 0) (f := 2) (ci := 0) (id := 9) (T' := nT_Ca_6) (d := "[I") (fin := true) rfl kI0 kO0 kN0 rfl (by decide) rfl rfl nwf_0_18 (ty := kY0 2) (by decide +kernel) (fun _ => rfl) (fun _ => rfl) (by decide) dn_Ca_28 ?_
  refine n_aload_n C dn_Ca_31 rfl 0 rfl ?_
  refine n_sipush C dn_Ca_32 (by decide) ?_
  refine n_newi C (n := 128) (id := 13) (T' := nT_Ca_7) nwa_int (by decide) rfl rfl (by decide) (k' := 4) (j' := 1408) rfl rfl (by decide) (by decide) rfl dn_Ca_35 ?_
  refine n_put C (pos := 0) (f := 3) (ci := 0) (id := 9) (T' := nT_Ca_8) (d := "[I") (fin := true) rfl kI0 kO0 kN0 rfl (by decide) rfl rfl nwf_0_21 (ty := kY0 3) (by decide +kernel) (fun _ => rfl) (fun _ => rfl) (by decide) dn_Ca_37 ?_
  refine n_aload_n C dn_Ca_40 rfl 0 rfl ?_
  refine n_sipush C dn_Ca_41 (by decide) ?_
  refine n_newb C (n := 128) (id := 14) (T' := nT_Ca_9) nwa_boolean (by decide) rfl rfl (by decide) (k' := 5) (j' := 1536) rfl rfl (by decide) (by decide) rfl dn_Ca_44 ?_
  refine n_put C (pos := 0) (f := 4) (ci := 0) (id := 9) (T' := nT_Ca_10) (d := "[Z") (fin := true) rfl kI0 kO0 kN0 rfl (by decide) rfl rfl nwf_0_24 (ty := kY0 4) (by decide +kernel) (fun _ => rfl) (fun _ => rfl) (by decide) dn_Ca_46 ?_
  refine n_aload_n C dn_Ca_49 rfl 0 rfl ?_
  refine n_sipush C dn_Ca_50 (by decide) ?_
  refine n_newb C (n := 128) (id := 15) (T' := nT_Ca_11) nwa_boolean (by decide) rfl rfl (by decide) (k' := 6) (j' := 1664) rfl rfl (by decide) (by decide) rfl dn_Ca_53 ?_
  refine n_put C (pos := 0) (f := 5) (ci := 0) (id := 9) (T' := nT_Ca_12) (d := "[Z") (fin := true) rfl kI0 kO0 kN0 rfl (by decide) rfl rfl nwf_0_28 (ty := kY0 5) (by decide +kernel) (fun _ => rfl) (fun _ => rfl) (by decide) dn_Ca_55 ?_
  refine n_aload_n C dn_Ca_58 rfl 0 rfl ?_
  refine n_iconst C dn_Ca_59 ?_
  refine n_newi C (n := 2) (id := 16) (T' := nT_Ca_13) nwa_int (by decide) rfl rfl (by decide) (k' := 7) (j' := 1666) rfl rfl (by decide) (by decide) rfl dn_Ca_60 ?_
  refine n_put C (pos := 0) (f := 6) (ci := 0) (id := 9) (T' := nT_Ca_14) (d := "[I") (fin := true) rfl kI0 kO0 kN0 rfl (by decide) rfl rfl nwf_0_31 (ty := kY0 6) (by decide +kernel) (fun _ => rfl) (fun _ => rfl) (by decide) dn_Ca_62 ?_
  refine n_aload_n C dn_Ca_65 rfl 0 rfl ?_
  refine n_iconst C dn_Ca_66 ?_
  refine n_put C (pos := 0) (f := 7) (ci := 0) (id := 9) (T' := nT_Ca_15) (d := "I") (fin := false) rfl kI0 kO0 kN0 rfl (by decide) rfl rfl nwf_0_34 (ty := kY0 7) (by decide +kernel) (fun _ => rfl) (fun _ => rfl) (by decide) dn_Ca_67 ?_
  refine n_aload_n C dn_Ca_70 rfl 0 rfl ?_
  refine n_iconst C dn_Ca_71 ?_
  refine n_put C (pos := 0) (f := 8) (ci := 0) (id := 9) (T' := nT_Ca_16) (d := "I") (fin := false) rfl kI0 kO0 kN0 rfl (by decide) rfl rfl nwf_0_38 (ty := kY0 8) (by decide +kernel) (fun _ => rfl) (fun _ => rfl) (by decide) dn_Ca_72 ?_
  refine n_aload_n C dn_Ca_75 rfl 0 rfl ?_
  refine n_aload_n C dn_Ca_76 rfl 1 rfl ?_
  refine n_put C (pos := 0) (f := 10) (ci := 0) (id := 9) (T' := nT_Ca_17) (d := "LCellToObject$Ledger;") (fin := true) rfl kI0 kO0 kN0 rfl (by decide) rfl rfl nwf_0_41 (ty := kY0 10) (by decide +kernel) (fun _ => rfl) (fun _ => rfl) (by decide) dn_Ca_77 ?_
  refine n_aload_n C dn_Ca_80 rfl 0 rfl ?_
  refine n_aload_n C dn_Ca_81 rfl 2 rfl ?_
  refine n_put C (pos := 0) (f := 11) (ci := 0) (id := 9) (T' := nT_Ca_18) (d := "LCellToObject$Cells;") (fin := true) rfl kI0 kO0 kN0 rfl (by decide) rfl rfl nwf_0_45 (ty := kY0 11) (by decide +kernel) (fun _ => rfl) (fun _ => rfl) (by decide) dn_Ca_82 ?_
  refine n_aload_n C dn_Ca_85 rfl 0 rfl ?_
  refine n_aload_n C dn_Ca_86 rfl 3 rfl ?_
  refine n_put C (pos := 0) (f := 12) (ci := 0) (id := 9) (T' := nT_Ca_19) (d := "[I") (fin := true) rfl kI0 kO0 kN0 rfl (by decide) rfl rfl nwf_0_49 (ty := kY0 12) (by decide +kernel) (fun _ => rfl) (fun _ => rfl) (by decide) dn_Ca_87 ?_
  exact n_vret C dn_Ca_90
/-! CellToObject$Run -/
theorem dn_Ru_0 : decode prog_7_method_1_code 0 = .ok (.aload_n 0, 1) := by decide +kernel
theorem dn_Ru_1 : decode prog_7_method_1_code 1 = .ok (.invokespecial 3, 3) := by decide +kernel
theorem dn_Ru_4 : decode prog_7_method_1_code 4 = .ok (.aload_n 0, 1) := by decide +kernel
theorem dn_Ru_5 : decode prog_7_method_1_code 5 = .ok (.bipush 100, 2) := by decide +kernel
theorem dn_Ru_7 : decode prog_7_method_1_code 7 = .ok (.newarray .int, 2) := by decide +kernel
theorem dn_Ru_9 : decode prog_7_method_1_code 9 = .ok (.putfield 11, 3) := by decide +kernel
theorem dn_Ru_12 : decode prog_7_method_1_code 12 = .ok (.aload_n 0, 1) := by decide +kernel
theorem dn_Ru_13 : decode prog_7_method_1_code 13 = .ok (.bipush 32, 2) := by decide +kernel
theorem dn_Ru_15 : decode prog_7_method_1_code 15 = .ok (.newarray .int, 2) := by decide +kernel
theorem dn_Ru_17 : decode prog_7_method_1_code 17 = .ok (.putfield 15, 3) := by decide +kernel
theorem dn_Ru_20 : decode prog_7_method_1_code 20 = .ok (.return_, 1) := by decide +kernel
def nT_Ru_0 : nT := [(20, .inr (5, nvs kY5 4))]
theorem nwm_5_3 : Cond.methodLink kR5 3 objectInit ∈ gTb := gmem 185 (by decide +kernel) (by decide +kernel)
def nT_Ru_1 : nT := [(20, .inr (5, [none, nint 0, nint 0, none])), (21, .inl (0, (100, z0)))]
theorem nwf_5_11 : Cond.fieldLink kR5 11 kR5 "pages" "[I" ∈ gTb := gmem 186 (by decide +kernel) (by decide +kernel)
def nT_Ru_2 : nT := [(20, .inr (5, [nref 21, nint 0, nint 0, none])), (21, .inl (0, (100, z0)))]
def nT_Ru_3 : nT := [(20, .inr (5, [nref 21, nint 0, nint 0, none])), (21, .inl (0, (100, z0))), (22, .inl (0, (32, z0)))]
theorem nwf_5_15 : Cond.fieldLink kR5 15 kR5 "next" "[I" ∈ gTb := gmem 189 (by decide +kernel) (by decide +kernel)
def nT_Ru_4 : nT := [(20, .inr (5, [nref 21, nint 0, nint 0, nref 22])), (21, .inl (0, (100, z0))), (22, .inl (0, (32, z0)))]
set_option maxRecDepth 20000 in
set_option maxHeartbeats 4000000 in
theorem cn_Ru : nCt Yn_Run prog_7_method_1_code 1 1 12 2 132 21 [nref 20] [(20, .inr (5, nvs kY5 4))] nT_Ru_4 := n_entry (by decide) rfl rfl (by decide) fun X C => by
  show NN 21 X 0 [(0, nref 20)] [] nT_Ru_0 0 0
  refine n_aload_n C dn_Ru_0 rfl 0 rfl ?_
  refine n_objInit C nwm_5_3 nwo_1 nwo_2 (by decide) (by decide) dn_Ru_1 ?_
  refine n_aload_n C dn_Ru_4 rfl 0 rfl ?_
  refine n_bipush C dn_Ru_5 (by decide) ?_
  refine n_newi C (n := 100) (id := 21) (T' := nT_Ru_1) nwa_int (by decide) rfl rfl (by decide) (k' := 1) (j' := 100) rfl rfl (by decide) (by decide) rfl dn_Ru_7 ?_
  refine n_put C (pos := 0) (f := 0) (ci := 5) (id := 20) (T' := nT_Ru_2) (d := "[I") (fin := true) rfl kI5 kO5 kN5 rfl (by decide) rfl rfl nwf_5_11 (ty := kY5 0) (by decide +kernel) (fun _ => rfl) (fun _ => rfl) (by decide) dn_Ru_9 ?_
  refine n_aload_n C dn_Ru_12 rfl 0 rfl ?_
  refine n_bipush C dn_Ru_13 (by decide) ?_
  refine n_newi C (n := 32) (id := 22) (T' := nT_Ru_3) nwa_int (by decide) rfl rfl (by decide) (k' := 2) (j' := 132) rfl rfl (by decide) (by decide) rfl dn_Ru_15 ?_
  refine n_put C (pos := 0) (f := 3) (ci := 5) (id := 20) (T' := nT_Ru_4) (d := "[I") (fin := true) rfl kI5 kO5 kN5 rfl (by decide) rfl rfl nwf_5_15 (ty := kY5 3) (by decide +kernel) (fun _ => rfl) (fun _ => rfl) (by decide) dn_Ru_17 ?_
  exact n_vret C dn_Ru_20
/-! CellToObject$Memory -/
def Yn_Memory : MethodName := ⟨kR4, "<init>", "(LCellToObject$Ledger;LCellToObject$Cells;LCellToObject$Caches;[I)V"⟩
theorem dn_Me_0 : decode prog_6_method_1_code 0 = .ok (.aload_n 0, 1) := by decide +kernel
theorem dn_Me_1 : decode prog_6_method_1_code 1 = .ok (.invokespecial 3, 3) := by decide +kernel
theorem dn_Me_4 : decode prog_6_method_1_code 4 = .ok (.aload_n 0, 1) := by decide +kernel
theorem dn_Me_5 : decode prog_6_method_1_code 5 = .ok (.iconst 4, 1) := by decide +kernel
theorem dn_Me_6 : decode prog_6_method_1_code 6 = .ok (.putfield 9, 3) := by decide +kernel
theorem dn_Me_9 : decode prog_6_method_1_code 9 = .ok (.aload_n 0, 1) := by decide +kernel
theorem dn_Me_10 : decode prog_6_method_1_code 10 = .ok (.bipush 32, 2) := by decide +kernel
theorem dn_Me_12 : decode prog_6_method_1_code 12 = .ok (.newarray .int, 2) := by decide +kernel
theorem dn_Me_14 : decode prog_6_method_1_code 14 = .ok (.putfield 15, 3) := by decide +kernel
theorem dn_Me_17 : decode prog_6_method_1_code 17 = .ok (.aload_n 0, 1) := by decide +kernel
theorem dn_Me_18 : decode prog_6_method_1_code 18 = .ok (.bipush 32, 2) := by decide +kernel
theorem dn_Me_20 : decode prog_6_method_1_code 20 = .ok (.newarray .boolean, 2) := by decide +kernel
theorem dn_Me_22 : decode prog_6_method_1_code 22 = .ok (.putfield 19, 3) := by decide +kernel
theorem dn_Me_25 : decode prog_6_method_1_code 25 = .ok (.aload_n 0, 1) := by decide +kernel
theorem dn_Me_26 : decode prog_6_method_1_code 26 = .ok (.new 23, 3) := by decide +kernel
theorem dn_Me_29 : decode prog_6_method_1_code 29 = .ok (.dup, 1) := by decide +kernel
theorem dn_Me_30 : decode prog_6_method_1_code 30 = .ok (.invokespecial 25, 3) := by decide +kernel
theorem dn_Me_33 : decode prog_6_method_1_code 33 = .ok (.putfield 26, 3) := by decide +kernel
theorem dn_Me_36 : decode prog_6_method_1_code 36 = .ok (.aload_n 0, 1) := by decide +kernel
theorem dn_Me_37 : decode prog_6_method_1_code 37 = .ok (.bipush 16, 2) := by decide +kernel
theorem dn_Me_39 : decode prog_6_method_1_code 39 = .ok (.newarray .int, 2) := by decide +kernel
theorem dn_Me_41 : decode prog_6_method_1_code 41 = .ok (.putfield 30, 3) := by decide +kernel
theorem dn_Me_44 : decode prog_6_method_1_code 44 = .ok (.aload_n 0, 1) := by decide +kernel
theorem dn_Me_45 : decode prog_6_method_1_code 45 = .ok (.bipush 16, 2) := by decide +kernel
theorem dn_Me_47 : decode prog_6_method_1_code 47 = .ok (.newarray .int, 2) := by decide +kernel
theorem dn_Me_49 : decode prog_6_method_1_code 49 = .ok (.putfield 33, 3) := by decide +kernel
theorem dn_Me_52 : decode prog_6_method_1_code 52 = .ok (.aload_n 0, 1) := by decide +kernel
theorem dn_Me_53 : decode prog_6_method_1_code 53 = .ok (.bipush 16, 2) := by decide +kernel
theorem dn_Me_55 : decode prog_6_method_1_code 55 = .ok (.newarray .int, 2) := by decide +kernel
theorem dn_Me_57 : decode prog_6_method_1_code 57 = .ok (.putfield 36, 3) := by decide +kernel
theorem dn_Me_60 : decode prog_6_method_1_code 60 = .ok (.aload_n 0, 1) := by decide +kernel
theorem dn_Me_61 : decode prog_6_method_1_code 61 = .ok (.bipush 16, 2) := by decide +kernel
theorem dn_Me_63 : decode prog_6_method_1_code 63 = .ok (.newarray .boolean, 2) := by decide +kernel
theorem dn_Me_65 : decode prog_6_method_1_code 65 = .ok (.putfield 39, 3) := by decide +kernel
theorem dn_Me_68 : decode prog_6_method_1_code 68 = .ok (.aload_n 0, 1) := by decide +kernel
theorem dn_Me_69 : decode prog_6_method_1_code 69 = .ok (.sipush 1024, 3) := by decide +kernel
theorem dn_Me_72 : decode prog_6_method_1_code 72 = .ok (.newarray .int, 2) := by decide +kernel
theorem dn_Me_74 : decode prog_6_method_1_code 74 = .ok (.putfield 42, 3) := by decide +kernel
theorem dn_Me_77 : decode prog_6_method_1_code 77 = .ok (.aload_n 0, 1) := by decide +kernel
theorem dn_Me_78 : decode prog_6_method_1_code 78 = .ok (.aload_n 1, 1) := by decide +kernel
theorem dn_Me_79 : decode prog_6_method_1_code 79 = .ok (.putfield 45, 3) := by decide +kernel
theorem dn_Me_82 : decode prog_6_method_1_code 82 = .ok (.aload_n 0, 1) := by decide +kernel
theorem dn_Me_83 : decode prog_6_method_1_code 83 = .ok (.aload_n 2, 1) := by decide +kernel
theorem dn_Me_84 : decode prog_6_method_1_code 84 = .ok (.putfield 49, 3) := by decide +kernel
theorem dn_Me_87 : decode prog_6_method_1_code 87 = .ok (.aload_n 0, 1) := by decide +kernel
theorem dn_Me_88 : decode prog_6_method_1_code 88 = .ok (.aload_n 3, 1) := by decide +kernel
theorem dn_Me_89 : decode prog_6_method_1_code 89 = .ok (.putfield 53, 3) := by decide +kernel
theorem dn_Me_92 : decode prog_6_method_1_code 92 = .ok (.aload_n 0, 1) := by decide +kernel
theorem dn_Me_93 : decode prog_6_method_1_code 93 = .ok (.aload 4, 2) := by decide +kernel
theorem dn_Me_95 : decode prog_6_method_1_code 95 = .ok (.putfield 57, 3) := by decide +kernel
theorem dn_Me_98 : decode prog_6_method_1_code 98 = .ok (.iconst 0, 1) := by decide +kernel
theorem dn_Me_99 : decode prog_6_method_1_code 99 = .ok (.istore 5, 2) := by decide +kernel
theorem dn_Me_101 : decode prog_6_method_1_code 101 = .ok (.iload 5, 2) := by decide +kernel
theorem dn_Me_103 : decode prog_6_method_1_code 103 = .ok (.bipush 32, 2) := by decide +kernel
theorem dn_Me_105 : decode prog_6_method_1_code 105 = .ok (.if_icmp .ge 18, 3) := by decide +kernel
theorem dn_Me_108 : decode prog_6_method_1_code 108 = .ok (.aload_n 0, 1) := by decide +kernel
theorem dn_Me_109 : decode prog_6_method_1_code 109 = .ok (.getfield 15, 3) := by decide +kernel
theorem dn_Me_112 : decode prog_6_method_1_code 112 = .ok (.iload 5, 2) := by decide +kernel
theorem dn_Me_114 : decode prog_6_method_1_code 114 = .ok (.bipush (-4), 2) := by decide +kernel
theorem dn_Me_116 : decode prog_6_method_1_code 116 = .ok (.iastore, 1) := by decide +kernel
theorem dn_Me_117 : decode prog_6_method_1_code 117 = .ok (.iinc 5 1, 3) := by decide +kernel
theorem dn_Me_120 : decode prog_6_method_1_code 120 = .ok (.goto (-19), 3) := by decide +kernel
theorem dn_Me_123 : decode prog_6_method_1_code 123 = .ok (.iconst 0, 1) := by decide +kernel
theorem dn_Me_124 : decode prog_6_method_1_code 124 = .ok (.istore 5, 2) := by decide +kernel
theorem dn_Me_126 : decode prog_6_method_1_code 126 = .ok (.iload 5, 2) := by decide +kernel
theorem dn_Me_128 : decode prog_6_method_1_code 128 = .ok (.bipush 16, 2) := by decide +kernel
theorem dn_Me_130 : decode prog_6_method_1_code 130 = .ok (.if_icmp .ge 18, 3) := by decide +kernel
theorem dn_Me_133 : decode prog_6_method_1_code 133 = .ok (.aload_n 0, 1) := by decide +kernel
theorem dn_Me_134 : decode prog_6_method_1_code 134 = .ok (.getfield 30, 3) := by decide +kernel
theorem dn_Me_137 : decode prog_6_method_1_code 137 = .ok (.iload 5, 2) := by decide +kernel
theorem dn_Me_139 : decode prog_6_method_1_code 139 = .ok (.bipush (-4), 2) := by decide +kernel
theorem dn_Me_141 : decode prog_6_method_1_code 141 = .ok (.iastore, 1) := by decide +kernel
theorem dn_Me_142 : decode prog_6_method_1_code 142 = .ok (.iinc 5 1, 3) := by decide +kernel
theorem dn_Me_145 : decode prog_6_method_1_code 145 = .ok (.goto (-19), 3) := by decide +kernel
theorem dn_Me_148 : decode prog_6_method_1_code 148 = .ok (.return_, 1) := by decide +kernel
def nT_Me_0 : nT := [(17, .inr (4, nvs kY4 15))]
theorem nwm_4_3 : Cond.methodLink kR4 3 objectInit ∈ gTb := gmem 179 (by decide +kernel) (by decide +kernel)
theorem nwf_4_9 : Cond.fieldLink kR4 9 kR4 "frames" "I" ∈ gTb := gmem 199 (by decide +kernel) (by decide +kernel)
def nT_Me_1 : nT := [(17, .inr (4, [nint 4, none, none, none, nint 0, nint 0, none, none, none, none, none, none, none, none, none]))]
def nT_Me_2 : nT := [(17, .inr (4, [nint 4, none, none, none, nint 0, nint 0, none, none, none, none, none, none, none, none, none])), (18, .inl (0, (32, z0)))]
theorem nwf_4_15 : Cond.fieldLink kR4 15 kR4 "frameOf" "[I" ∈ gTb := gmem 201 (by decide +kernel) (by decide +kernel)
def nT_Me_3 : nT := [(17, .inr (4, [nint 4, nref 18, none, none, nint 0, nint 0, none, none, none, none, none, none, none, none, none])), (18, .inl (0, (32, z0)))]
def nT_Me_4 : nT := [(17, .inr (4, [nint 4, nref 18, none, none, nint 0, nint 0, none, none, none, none, none, none, none, none, none])), (18, .inl (0, (32, z0))), (19, .inl (1, (32, z0)))]
theorem nwf_4_19 : Cond.fieldLink kR4 19 kR4 "everTouched" "[Z" ∈ gTb := gmem 203 (by decide +kernel) (by decide +kernel)
def nT_Me_5 : nT := [(17, .inr (4, [nint 4, nref 18, nref 19, none, nint 0, nint 0, none, none, none, none, none, none, none, none, none])), (18, .inl (0, (32, z0))), (19, .inl (1, (32, z0)))]
theorem nwc_4_23 : Cond.classLink kR4 23 kR5 ∈ gTb := gmem 180 (by decide +kernel) (by decide +kernel)
theorem nwn_5 : Cond.instantiable kR5 4 ∈ gTb := gmem 181 (by decide +kernel) (by decide +kernel)
theorem nwi_5 : Cond.initialized kR5 ∈ gTb := gmem 66 (by decide +kernel) (by decide +kernel)
def nT_Me_6 : nT := [(17, .inr (4, [nint 4, nref 18, nref 19, none, nint 0, nint 0, none, none, none, none, none, none, none, none, none])), (18, .inl (0, (32, z0))), (19, .inl (1, (32, z0))), (20, .inr (5, [none, nint 0, nint 0, none]))]
theorem nwx_5 : Cond.instanceMethod Yn_Run ∈ gTb := gmem 183 (by decide +kernel) (by decide +kernel)
theorem nwd_5 : Cond.code Yn_Run prog_7_method_1_code 1 none ∈ gTb := gmem 184 (by decide +kernel) (by decide +kernel)
def nT_Me_7 : nT := [(17, .inr (4, [nint 4, nref 18, nref 19, none, nint 0, nint 0, none, none, none, none, none, none, none, none, none])), (18, .inl (0, (32, z0))), (19, .inl (1, (32, z0))), (20, .inr (5, [nref 21, nint 0, nint 0, nref 22])), (21, .inl (0, (100, z0))), (22, .inl (0, (32, z0)))]
theorem nwf_4_26 : Cond.fieldLink kR4 26 kR4 "run" "LCellToObject$Run;" ∈ gTb := gmem 205 (by decide +kernel) (by decide +kernel)
def nT_Me_8 : nT := [(17, .inr (4, [nint 4, nref 18, nref 19, nref 20, nint 0, nint 0, none, none, none, none, none, none, none, none, none])), (18, .inl (0, (32, z0))), (19, .inl (1, (32, z0))), (20, .inr (5, [nref 21, nint 0, nint 0, nref 22])), (21, .inl (0, (100, z0))), (22, .inl (0, (32, z0)))]
def nT_Me_9 : nT := [(17, .inr (4, [nint 4, nref 18, nref 19, nref 20, nint 0, nint 0, none, none, none, none, none, none, none, none, none])), (18, .inl (0, (32, z0))), (19, .inl (1, (32, z0))), (20, .inr (5, [nref 21, nint 0, nint 0, nref 22])), (21, .inl (0, (100, z0))), (22, .inl (0, (32, z0))), (23, .inl (0, (16, z0)))]
theorem nwf_4_30 : Cond.fieldLink kR4 30 kR4 "pageIn" "[I" ∈ gTb := gmem 209 (by decide +kernel) (by decide +kernel)
def nT_Me_10 : nT := [(17, .inr (4, [nint 4, nref 18, nref 19, nref 20, nint 0, nint 0, nref 23, none, none, none, none, none, none, none, none])), (18, .inl (0, (32, z0))), (19, .inl (1, (32, z0))), (20, .inr (5, [nref 21, nint 0, nint 0, nref 22])), (21, .inl (0, (100, z0))), (22, .inl (0, (32, z0))), (23, .inl (0, (16, z0)))]
def nT_Me_11 : nT := [(17, .inr (4, [nint 4, nref 18, nref 19, nref 20, nint 0, nint 0, nref 23, none, none, none, none, none, none, none, none])), (18, .inl (0, (32, z0))), (19, .inl (1, (32, z0))), (20, .inr (5, [nref 21, nint 0, nint 0, nref 22])), (21, .inl (0, (100, z0))), (22, .inl (0, (32, z0))), (23, .inl (0, (16, z0))), (24, .inl (0, (16, z0)))]
theorem nwf_4_33 : Cond.fieldLink kR4 33 kR4 "came" "[I" ∈ gTb := gmem 210 (by decide +kernel) (by decide +kernel)
def nT_Me_12 : nT := [(17, .inr (4, [nint 4, nref 18, nref 19, nref 20, nint 0, nint 0, nref 23, nref 24, none, none, none, none, none, none, none])), (18, .inl (0, (32, z0))), (19, .inl (1, (32, z0))), (20, .inr (5, [nref 21, nint 0, nint 0, nref 22])), (21, .inl (0, (100, z0))), (22, .inl (0, (32, z0))), (23, .inl (0, (16, z0))), (24, .inl (0, (16, z0)))]
def nT_Me_13 : nT := [(17, .inr (4, [nint 4, nref 18, nref 19, nref 20, nint 0, nint 0, nref 23, nref 24, none, none, none, none, none, none, none])), (18, .inl (0, (32, z0))), (19, .inl (1, (32, z0))), (20, .inr (5, [nref 21, nint 0, nint 0, nref 22])), (21, .inl (0, (100, z0))), (22, .inl (0, (32, z0))), (23, .inl (0, (16, z0))), (24, .inl (0, (16, z0))), (25, .inl (0, (16, z0)))]
theorem nwf_4_36 : Cond.fieldLink kR4 36 kR4 "touchedAt" "[I" ∈ gTb := gmem 211 (by decide +kernel) (by decide +kernel)
def nT_Me_14 : nT := [(17, .inr (4, [nint 4, nref 18, nref 19, nref 20, nint 0, nint 0, nref 23, nref 24, nref 25, none, none, none, none, none, none])), (18, .inl (0, (32, z0))), (19, .inl (1, (32, z0))), (20, .inr (5, [nref 21, nint 0, nint 0, nref 22])), (21, .inl (0, (100, z0))), (22, .inl (0, (32, z0))), (23, .inl (0, (16, z0))), (24, .inl (0, (16, z0))), (25, .inl (0, (16, z0)))]
def nT_Me_15 : nT := [(17, .inr (4, [nint 4, nref 18, nref 19, nref 20, nint 0, nint 0, nref 23, nref 24, nref 25, none, none, none, none, none, none])), (18, .inl (0, (32, z0))), (19, .inl (1, (32, z0))), (20, .inr (5, [nref 21, nint 0, nint 0, nref 22])), (21, .inl (0, (100, z0))), (22, .inl (0, (32, z0))), (23, .inl (0, (16, z0))), (24, .inl (0, (16, z0))), (25, .inl (0, (16, z0))), (26, .inl (1, (16, z0)))]
theorem nwf_4_39 : Cond.fieldLink kR4 39 kR4 "touchedSinceHand" "[Z" ∈ gTb := gmem 212 (by decide +kernel) (by decide +kernel)
def nT_Me_16 : nT := [(17, .inr (4, [nint 4, nref 18, nref 19, nref 20, nint 0, nint 0, nref 23, nref 24, nref 25, nref 26, none, none, none, none, none])), (18, .inl (0, (32, z0))), (19, .inl (1, (32, z0))), (20, .inr (5, [nref 21, nint 0, nint 0, nref 22])), (21, .inl (0, (100, z0))), (22, .inl (0, (32, z0))), (23, .inl (0, (16, z0))), (24, .inl (0, (16, z0))), (25, .inl (0, (16, z0))), (26, .inl (1, (16, z0)))]
def nT_Me_17 : nT := [(17, .inr (4, [nint 4, nref 18, nref 19, nref 20, nint 0, nint 0, nref 23, nref 24, nref 25, nref 26, none, none, none, none, none])), (18, .inl (0, (32, z0))), (19, .inl (1, (32, z0))), (20, .inr (5, [nref 21, nint 0, nint 0, nref 22])), (21, .inl (0, (100, z0))), (22, .inl (0, (32, z0))), (23, .inl (0, (16, z0))), (24, .inl (0, (16, z0))), (25, .inl (0, (16, z0))), (26, .inl (1, (16, z0))), (27, .inl (0, (1024, z0)))]
theorem nwf_4_42 : Cond.fieldLink kR4 42 kR4 "disc" "[I" ∈ gTb := gmem 213 (by decide +kernel) (by decide +kernel)
def nT_Me_18 : nT := [(17, .inr (4, [nint 4, nref 18, nref 19, nref 20, nint 0, nint 0, nref 23, nref 24, nref 25, nref 26, nref 27, none, none, none, none])), (18, .inl (0, (32, z0))), (19, .inl (1, (32, z0))), (20, .inr (5, [nref 21, nint 0, nint 0, nref 22])), (21, .inl (0, (100, z0))), (22, .inl (0, (32, z0))), (23, .inl (0, (16, z0))), (24, .inl (0, (16, z0))), (25, .inl (0, (16, z0))), (26, .inl (1, (16, z0))), (27, .inl (0, (1024, z0)))]
theorem nwf_4_45 : Cond.fieldLink kR4 45 kR4 "ledger" "LCellToObject$Ledger;" ∈ gTb := gmem 214 (by decide +kernel) (by decide +kernel)
def nT_Me_19 : nT := [(17, .inr (4, [nint 4, nref 18, nref 19, nref 20, nint 0, nint 0, nref 23, nref 24, nref 25, nref 26, nref 27, nref 2, none, none, none])), (18, .inl (0, (32, z0))), (19, .inl (1, (32, z0))), (20, .inr (5, [nref 21, nint 0, nint 0, nref 22])), (21, .inl (0, (100, z0))), (22, .inl (0, (32, z0))), (23, .inl (0, (16, z0))), (24, .inl (0, (16, z0))), (25, .inl (0, (16, z0))), (26, .inl (1, (16, z0))), (27, .inl (0, (1024, z0)))]
theorem nwf_4_49 : Cond.fieldLink kR4 49 kR4 "cells" "LCellToObject$Cells;" ∈ gTb := gmem 215 (by decide +kernel) (by decide +kernel)
def nT_Me_20 : nT := [(17, .inr (4, [nint 4, nref 18, nref 19, nref 20, nint 0, nint 0, nref 23, nref 24, nref 25, nref 26, nref 27, nref 2, nref 5, none, none])), (18, .inl (0, (32, z0))), (19, .inl (1, (32, z0))), (20, .inr (5, [nref 21, nint 0, nint 0, nref 22])), (21, .inl (0, (100, z0))), (22, .inl (0, (32, z0))), (23, .inl (0, (16, z0))), (24, .inl (0, (16, z0))), (25, .inl (0, (16, z0))), (26, .inl (1, (16, z0))), (27, .inl (0, (1024, z0)))]
theorem nwf_4_53 : Cond.fieldLink kR4 53 kR4 "caches" "LCellToObject$Caches;" ∈ gTb := gmem 216 (by decide +kernel) (by decide +kernel)
def nT_Me_21 : nT := [(17, .inr (4, [nint 4, nref 18, nref 19, nref 20, nint 0, nint 0, nref 23, nref 24, nref 25, nref 26, nref 27, nref 2, nref 5, nref 9, none])), (18, .inl (0, (32, z0))), (19, .inl (1, (32, z0))), (20, .inr (5, [nref 21, nint 0, nint 0, nref 22])), (21, .inl (0, (100, z0))), (22, .inl (0, (32, z0))), (23, .inl (0, (16, z0))), (24, .inl (0, (16, z0))), (25, .inl (0, (16, z0))), (26, .inl (1, (16, z0))), (27, .inl (0, (1024, z0)))]
theorem nwf_4_57 : Cond.fieldLink kR4 57 kR4 "rules" "[I" ∈ gTb := gmem 217 (by decide +kernel) (by decide +kernel)
def nT_Me_22 : nT := [(17, .inr (4, [nint 4, nref 18, nref 19, nref 20, nint 0, nint 0, nref 23, nref 24, nref 25, nref 26, nref 27, nref 2, nref 5, nref 9, nref 1])), (18, .inl (0, (32, z0))), (19, .inl (1, (32, z0))), (20, .inr (5, [nref 21, nint 0, nint 0, nref 22])), (21, .inl (0, (100, z0))), (22, .inl (0, (32, z0))), (23, .inl (0, (16, z0))), (24, .inl (0, (16, z0))), (25, .inl (0, (16, z0))), (26, .inl (1, (16, z0))), (27, .inl (0, (1024, z0)))]
def nT_Me_l1 (a : Int) : nT := [(17, .inr (4, [nint 4, nref 18, nref 19, nref 20, nint 0, nint 0, nref 23, nref 24, nref 25, nref 26, nref 27, nref 2, nref 5, nref 9, nref 1])), (18, .inl (0, (32, fl (-4) a))), (19, .inl (1, (32, z0))), (20, .inr (5, [nref 21, nint 0, nint 0, nref 22])), (21, .inl (0, (100, z0))), (22, .inl (0, (32, z0))), (23, .inl (0, (16, z0))), (24, .inl (0, (16, z0))), (25, .inl (0, (16, z0))), (26, .inl (1, (16, z0))), (27, .inl (0, (1024, z0)))]
theorem nT_Me_l1_0 : nT_Me_l1 0 = nT_Me_22 := by
  unfold nT_Me_l1 nT_Me_22
  simp only [fl_0]
def nT_Me_l2 (a : Int) : nT := [(17, .inr (4, [nint 4, nref 18, nref 19, nref 20, nint 0, nint 0, nref 23, nref 24, nref 25, nref 26, nref 27, nref 2, nref 5, nref 9, nref 1])), (18, .inl (0, (32, fl (-4) 32))), (19, .inl (1, (32, z0))), (20, .inr (5, [nref 21, nint 0, nint 0, nref 22])), (21, .inl (0, (100, z0))), (22, .inl (0, (32, z0))), (23, .inl (0, (16, fl (-4) a))), (24, .inl (0, (16, z0))), (25, .inl (0, (16, z0))), (26, .inl (1, (16, z0))), (27, .inl (0, (1024, z0)))]
theorem nT_Me_l2_0 : nT_Me_l2 0 = (nT_Me_l1 32) := by
  unfold nT_Me_l2 nT_Me_l1
  simp only [fl_0]
set_option maxRecDepth 20000 in
set_option maxHeartbeats 4000000 in
theorem cn_Me : nCt Yn_Memory prog_6_method_1_code 6 2 32 10 1288 18 [nref 17, nref 2, nref 5, nref 9, nref 1] [(17, .inr (4, nvs kY4 15))] (nT_Me_l2 16) := n_entry (by decide) rfl rfl (by decide) fun X C => by
  show NN 18 X 0 [(0, nref 17), (1, nref 2), (2, nref 5), (3, nref 9), (4, nref 1)] [] nT_Me_0 0 0
  refine n_aload_n C dn_Me_0 rfl 0 rfl ?_
  refine n_objInit C nwm_4_3 nwo_1 nwo_2 (by decide) (by decide) dn_Me_1 ?_
  refine n_aload_n C dn_Me_4 rfl 0 rfl ?_
  refine n_iconst C dn_Me_5 ?_
  refine n_put C (pos := 0) (f := 0) (ci := 4) (id := 17) (T' := nT_Me_1) (d := "I") (fin := false) rfl kI4 kO4 kN4 rfl (by decide) rfl rfl nwf_4_9 (ty := kY4 0) (by decide +kernel) (fun _ => rfl) (fun _ => rfl) (by decide) dn_Me_6 ?_
  refine n_aload_n C dn_Me_9 rfl 0 rfl ?_
  refine n_bipush C dn_Me_10 (by decide) ?_
  refine n_newi C (n := 32) (id := 18) (T' := nT_Me_2) nwa_int (by decide) rfl rfl (by decide) (k' := 1) (j' := 32) rfl rfl (by decide) (by decide) rfl dn_Me_12 ?_
  refine n_put C (pos := 0) (f := 1) (ci := 4) (id := 17) (T' := nT_Me_3) (d := "[I") (fin := true) rfl kI4 kO4 kN4 rfl (by decide) rfl rfl nwf_4_15 (ty := kY4 1) (by decide +kernel) (fun _ => rfl) (fun _ => rfl) (by decide) dn_Me_14 ?_
  refine n_aload_n C dn_Me_17 rfl 0 rfl ?_
  refine n_bipush C dn_Me_18 (by decide) ?_
  refine n_newb C (n := 32) (id := 19) (T' := nT_Me_4) nwa_boolean (by decide) rfl rfl (by decide) (k' := 2) (j' := 64) rfl rfl (by decide) (by decide) rfl dn_Me_20 ?_
  refine n_put C (pos := 0) (f := 2) (ci := 4) (id := 17) (T' := nT_Me_5) (d := "[Z") (fin := true) rfl kI4 kO4 kN4 rfl (by decide) rfl rfl nwf_4_19 (ty := kY4 2) (by decide +kernel) (fun _ => rfl) (fun _ => rfl) (by decide) dn_Me_22 ?_
  refine n_aload_n C dn_Me_25 rfl 0 rfl ?_
  refine n_new C (id := 20) (ci := 5) (cn := kR5) (T' := nT_Me_6) rfl kI5 kO5 (by decide +kernel) nwc_4_23 nwn_5 nwi_5 (by decide) rfl (k' := 3) (j' := 68) rfl rfl (by decide) (by decide) rfl rfl dn_Me_26 ?_
  refine n_dup C rfl dn_Me_29 ?_
  refine n_init C (id := 20) (as := []) (st := [nref 20, nref 17]) (Tr := nT_Me_5) (T' := nT_Me_7) cn_Ru rfl rfl rfl (Or.inr ⟨"CellToObject", C.2.2.2.2.2.2.2.2.2.2.2.1.2⟩) nwx_5 nwi_5 nwd_5 ⟨by decide, by decide, by decide +kernel⟩ rfl (by decide) (by decide) (by decide) rfl (k' := 5) (j' := 200) rfl rfl (by decide) (by decide) dn_Me_30 ?_
  refine n_put C (pos := 0) (f := 3) (ci := 4) (id := 17) (T' := nT_Me_8) (d := "LCellToObject$Run;") (fin := true) rfl kI4 kO4 kN4 rfl (by decide) rfl rfl nwf_4_26 (ty := kY4 3) (by decide +kernel) (fun _ => rfl) (fun _ => rfl) (by decide) dn_Me_33 ?_
  refine n_aload_n C dn_Me_36 rfl 0 rfl ?_
  refine n_bipush C dn_Me_37 (by decide) ?_
  refine n_newi C (n := 16) (id := 23) (T' := nT_Me_9) nwa_int (by decide) rfl rfl (by decide) (k' := 6) (j' := 216) rfl rfl (by decide) (by decide) rfl dn_Me_39 ?_
  refine n_put C (pos := 0) (f := 6) (ci := 4) (id := 17) (T' := nT_Me_10) (d := "[I") (fin := true) rfl kI4 kO4 kN4 rfl (by decide) rfl rfl nwf_4_30 (ty := kY4 6) (by decide +kernel) (fun _ => rfl) (fun _ => rfl) (by decide) dn_Me_41 ?_
  refine n_aload_n C dn_Me_44 rfl 0 rfl ?_
  refine n_bipush C dn_Me_45 (by decide) ?_
  refine n_newi C (n := 16) (id := 24) (T' := nT_Me_11) nwa_int (by decide) rfl rfl (by decide) (k' := 7) (j' := 232) rfl rfl (by decide) (by decide) rfl dn_Me_47 ?_
  refine n_put C (pos := 0) (f := 7) (ci := 4) (id := 17) (T' := nT_Me_12) (d := "[I") (fin := true) rfl kI4 kO4 kN4 rfl (by decide) rfl rfl nwf_4_33 (ty := kY4 7) (by decide +kernel) (fun _ => rfl) (fun _ => rfl) (by decide) dn_Me_49 ?_
  refine n_aload_n C dn_Me_52 rfl 0 rfl ?_
  refine n_bipush C dn_Me_53 (by decide) ?_
  refine n_newi C (n := 16) (id := 25) (T' := nT_Me_13) nwa_int (by decide) rfl rfl (by decide) (k' := 8) (j' := 248) rfl rfl (by decide) (by decide) rfl dn_Me_55 ?_
  refine n_put C (pos := 0) (f := 8) (ci := 4) (id := 17) (T' := nT_Me_14) (d := "[I") (fin := true) rfl kI4 kO4 kN4 rfl (by decide) rfl rfl nwf_4_36 (ty := kY4 8) (by decide +kernel) (fun _ => rfl) (fun _ => rfl) (by decide) dn_Me_57 ?_
  refine n_aload_n C dn_Me_60 rfl 0 rfl ?_
  refine n_bipush C dn_Me_61 (by decide) ?_
  refine n_newb C (n := 16) (id := 26) (T' := nT_Me_15) nwa_boolean (by decide) rfl rfl (by decide) (k' := 9) (j' := 264) rfl rfl (by decide) (by decide) rfl dn_Me_63 ?_
  refine n_put C (pos := 0) (f := 9) (ci := 4) (id := 17) (T' := nT_Me_16) (d := "[Z") (fin := true) rfl kI4 kO4 kN4 rfl (by decide) rfl rfl nwf_4_39 (ty := kY4 9) (by decide +kernel) (fun _ => rfl) (fun _ => rfl) (by decide) dn_Me_65 ?_
  refine n_aload_n C dn_Me_68 rfl 0 rfl ?_
  refine n_sipush C dn_Me_69 (by decide) ?_
  refine n_newi C (n := 1024) (id := 27) (T' := nT_Me_17) nwa_int (by decide) rfl rfl (by decide) (k' := 10) (j' := 1288) rfl rfl (by decide) (by decide) rfl dn_Me_72 ?_
  refine n_put C (pos := 0) (f := 10) (ci := 4) (id := 17) (T' := nT_Me_18) (d := "[I") (fin := true) rfl kI4 kO4 kN4 rfl (by decide) rfl rfl nwf_4_42 (ty := kY4 10) (by decide +kernel) (fun _ => rfl) (fun _ => rfl) (by decide) dn_Me_74 ?_
  refine n_aload_n C dn_Me_77 rfl 0 rfl ?_
  refine n_aload_n C dn_Me_78 rfl 1 rfl ?_
  refine n_put C (pos := 0) (f := 11) (ci := 4) (id := 17) (T' := nT_Me_19) (d := "LCellToObject$Ledger;") (fin := true) rfl kI4 kO4 kN4 rfl (by decide) rfl rfl nwf_4_45 (ty := kY4 11) (by decide +kernel) (fun _ => rfl) (fun _ => rfl) (by decide) dn_Me_79 ?_
  refine n_aload_n C dn_Me_82 rfl 0 rfl ?_
  refine n_aload_n C dn_Me_83 rfl 2 rfl ?_
  refine n_put C (pos := 0) (f := 12) (ci := 4) (id := 17) (T' := nT_Me_20) (d := "LCellToObject$Cells;") (fin := true) rfl kI4 kO4 kN4 rfl (by decide) rfl rfl nwf_4_49 (ty := kY4 12) (by decide +kernel) (fun _ => rfl) (fun _ => rfl) (by decide) dn_Me_84 ?_
  refine n_aload_n C dn_Me_87 rfl 0 rfl ?_
  refine n_aload_n C dn_Me_88 rfl 3 rfl ?_
  refine n_put C (pos := 0) (f := 13) (ci := 4) (id := 17) (T' := nT_Me_21) (d := "LCellToObject$Caches;") (fin := true) rfl kI4 kO4 kN4 rfl (by decide) rfl rfl nwf_4_53 (ty := kY4 13) (by decide +kernel) (fun _ => rfl) (fun _ => rfl) (by decide) dn_Me_89 ?_
  refine n_aload_n C dn_Me_92 rfl 0 rfl ?_
  refine n_aload C dn_Me_93 4 rfl ?_
  refine n_put C (pos := 0) (f := 14) (ci := 4) (id := 17) (T' := nT_Me_22) (d := "[I") (fin := true) rfl kI4 kO4 kN4 rfl (by decide) rfl rfl nwf_4_57 (ty := kY4 14) (by decide +kernel) (fun _ => rfl) (fun _ => rfl) (by decide) dn_Me_95 ?_
  refine n_iconst C dn_Me_98 ?_
  refine n_istore C dn_Me_99 (by decide) (L' := [(5, nint 0), (0, nref 17), (1, nref 2), (2, nref 5), (3, nref 9), (4, nref 1)]) rfl ?_
  rw [← nT_Me_l1_0]
  refine n_loop (L := fun i => [(5, nint i), (0, nref 17), (1, nref 2), (2, nref 5), (3, nref 9), (4, nref 1)]) (T := fun i => nT_Me_l1 i) (hi := 32) (fun i i1 i2 ih => ?_) ?_ 200 0 (by omega) (by omega) (by omega)
  · show NN 18 X 101 [(5, nint i), (0, nref 17), (1, nref 2), (2, nref 5), (3, nref 9), (4, nref 1)] [] (nT_Me_l1 i) 10 1288
    refine n_iload C dn_Me_101 0 rfl ?_
    refine n_bipush C dn_Me_103 (by decide) ?_
    refine n_icmp_ge C (tgt := 123) ⟨by omega, by omega⟩ ⟨by decide, by decide⟩ dn_Me_105 (by decide) (fun c => absurd c (by omega)) (fun _ => ?_)
    refine n_aload_n C dn_Me_108 rfl 1 rfl ?_
    refine n_get C (pos := 0) (f := 1) (ci := 4) (cn := kR4) (d := "[I") rfl kI4 rfl (by decide) (v := nref 18) rfl rfl nwf_4_15 dn_Me_109 ?_
    refine n_iload C dn_Me_112 0 rfl ?_
    refine n_bipush C dn_Me_114 (by decide) ?_
    refine n_iast C (pos := 1) (T' := (nT_Me_l1 (i + 1))) rfl ⟨i1, i2⟩ ⟨by omega, by omega⟩ (by rw [fl_s i1]; rfl) dn_Me_116 ?_
    refine n_iinc C (t := 0) (x := i) dn_Me_117 rfl (by decide) (L' := [(5, nint (i + 1)), (0, nref 17), (1, nref 2), (2, nref 5), (3, nref 9), (4, nref 1)]) rfl ?_
    exact n_goto C (tgt := 101) dn_Me_120 (by decide) ih
  show NN 18 X 101 [(5, nint 32), (0, nref 17), (1, nref 2), (2, nref 5), (3, nref 9), (4, nref 1)] [] (nT_Me_l1 32) 10 1288
  refine n_iload C dn_Me_101 0 rfl ?_
  refine n_bipush C dn_Me_103 (by decide) ?_
  refine n_icmp_ge C (tgt := 123) ⟨by decide, by decide⟩ ⟨by decide, by decide⟩ dn_Me_105 (by decide) (fun _ => ?_) (fun c => absurd (by decide) c)
  refine n_sub (L' := [(0, nref 17), (1, nref 2), (2, nref 5), (3, nref 9), (4, nref 1)]) [1, 2, 3, 4, 5] rfl ?_
  refine n_iconst C dn_Me_123 ?_
  refine n_istore C dn_Me_124 (by decide) (L' := [(5, nint 0), (0, nref 17), (1, nref 2), (2, nref 5), (3, nref 9), (4, nref 1)]) rfl ?_
  rw [← nT_Me_l2_0]
  refine n_loop (L := fun i => [(5, nint i), (0, nref 17), (1, nref 2), (2, nref 5), (3, nref 9), (4, nref 1)]) (T := fun i => nT_Me_l2 i) (hi := 16) (fun i i1 i2 ih => ?_) ?_ 200 0 (by omega) (by omega) (by omega)
  · show NN 18 X 126 [(5, nint i), (0, nref 17), (1, nref 2), (2, nref 5), (3, nref 9), (4, nref 1)] [] (nT_Me_l2 i) 10 1288
    refine n_iload C dn_Me_126 0 rfl ?_
    refine n_bipush C dn_Me_128 (by decide) ?_
    refine n_icmp_ge C (tgt := 148) ⟨by omega, by omega⟩ ⟨by decide, by decide⟩ dn_Me_130 (by decide) (fun c => absurd c (by omega)) (fun _ => ?_)
    refine n_aload_n C dn_Me_133 rfl 1 rfl ?_
    refine n_get C (pos := 0) (f := 6) (ci := 4) (cn := kR4) (d := "[I") rfl kI4 rfl (by decide) (v := nref 23) rfl rfl nwf_4_30 dn_Me_134 ?_
    refine n_iload C dn_Me_137 0 rfl ?_
    refine n_bipush C dn_Me_139 (by decide) ?_
    refine n_iast C (pos := 6) (T' := (nT_Me_l2 (i + 1))) rfl ⟨i1, i2⟩ ⟨by omega, by omega⟩ (by rw [fl_s i1]; rfl) dn_Me_141 ?_
    refine n_iinc C (t := 0) (x := i) dn_Me_142 rfl (by decide) (L' := [(5, nint (i + 1)), (0, nref 17), (1, nref 2), (2, nref 5), (3, nref 9), (4, nref 1)]) rfl ?_
    exact n_goto C (tgt := 126) dn_Me_145 (by decide) ih
  show NN 18 X 126 [(5, nint 16), (0, nref 17), (1, nref 2), (2, nref 5), (3, nref 9), (4, nref 1)] [] (nT_Me_l2 16) 10 1288
  refine n_iload C dn_Me_126 0 rfl ?_
  refine n_bipush C dn_Me_128 (by decide) ?_
  refine n_icmp_ge C (tgt := 148) ⟨by decide, by decide⟩ ⟨by decide, by decide⟩ dn_Me_130 (by decide) (fun _ => ?_) (fun c => absurd (by decide) c)
  refine n_sub (L' := [(0, nref 17), (1, nref 2), (2, nref 5), (3, nref 9), (4, nref 1)]) [1, 2, 3, 4, 5] rfl ?_
  exact n_vret C dn_Me_148
/-! CellToObject$Heap -/
def Yn_Heap : MethodName := ⟨kR2, "<init>", "(LCellToObject$Ledger;LCellToObject$Caches;LCellToObject$Memory;[I)V"⟩
theorem dn_He_0 : decode prog_4_method_1_code 0 = .ok (.aload_n 0, 1) := by decide +kernel
theorem dn_He_1 : decode prog_4_method_1_code 1 = .ok (.invokespecial 3, 3) := by decide +kernel
theorem dn_He_4 : decode prog_4_method_1_code 4 = .ok (.aload_n 0, 1) := by decide +kernel
theorem dn_He_5 : decode prog_4_method_1_code 5 = .ok (.bipush 40, 2) := by decide +kernel
theorem dn_He_7 : decode prog_4_method_1_code 7 = .ok (.newarray .int, 2) := by decide +kernel
theorem dn_He_9 : decode prog_4_method_1_code 9 = .ok (.putfield 9, 3) := by decide +kernel
theorem dn_He_12 : decode prog_4_method_1_code 12 = .ok (.aload_n 0, 1) := by decide +kernel
theorem dn_He_13 : decode prog_4_method_1_code 13 = .ok (.bipush 40, 2) := by decide +kernel
theorem dn_He_15 : decode prog_4_method_1_code 15 = .ok (.newarray .int, 2) := by decide +kernel
theorem dn_He_17 : decode prog_4_method_1_code 17 = .ok (.putfield 15, 3) := by decide +kernel
theorem dn_He_20 : decode prog_4_method_1_code 20 = .ok (.aload_n 0, 1) := by decide +kernel
theorem dn_He_21 : decode prog_4_method_1_code 21 = .ok (.bipush 40, 2) := by decide +kernel
theorem dn_He_23 : decode prog_4_method_1_code 23 = .ok (.newarray .int, 2) := by decide +kernel
theorem dn_He_25 : decode prog_4_method_1_code 25 = .ok (.putfield 18, 3) := by decide +kernel
theorem dn_He_28 : decode prog_4_method_1_code 28 = .ok (.aload_n 0, 1) := by decide +kernel
theorem dn_He_29 : decode prog_4_method_1_code 29 = .ok (.bipush 40, 2) := by decide +kernel
theorem dn_He_31 : decode prog_4_method_1_code 31 = .ok (.newarray .boolean, 2) := by decide +kernel
theorem dn_He_33 : decode prog_4_method_1_code 33 = .ok (.putfield 21, 3) := by decide +kernel
theorem dn_He_36 : decode prog_4_method_1_code 36 = .ok (.aload_n 0, 1) := by decide +kernel
theorem dn_He_37 : decode prog_4_method_1_code 37 = .ok (.bipush 40, 2) := by decide +kernel
theorem dn_He_39 : decode prog_4_method_1_code 39 = .ok (.newarray .int, 2) := by decide +kernel
theorem dn_He_41 : decode prog_4_method_1_code 41 = .ok (.putfield 25, 3) := by decide +kernel
theorem dn_He_44 : decode prog_4_method_1_code 44 = .ok (.aload_n 0, 1) := by decide +kernel
theorem dn_He_45 : decode prog_4_method_1_code 45 = .ok (.bipush 8, 2) := by decide +kernel
theorem dn_He_47 : decode prog_4_method_1_code 47 = .ok (.newarray .int, 2) := by decide +kernel
theorem dn_He_49 : decode prog_4_method_1_code 49 = .ok (.putfield 28, 3) := by decide +kernel
theorem dn_He_52 : decode prog_4_method_1_code 52 = .ok (.aload_n 0, 1) := by decide +kernel
theorem dn_He_53 : decode prog_4_method_1_code 53 = .ok (.iconst 4, 1) := by decide +kernel
theorem dn_He_54 : decode prog_4_method_1_code 54 = .ok (.newarray .int, 2) := by decide +kernel
theorem dn_He_56 : decode prog_4_method_1_code 56 = .ok (.putfield 31, 3) := by decide +kernel
theorem dn_He_59 : decode prog_4_method_1_code 59 = .ok (.aload_n 0, 1) := by decide +kernel
theorem dn_He_60 : decode prog_4_method_1_code 60 = .ok (.bipush 40, 2) := by decide +kernel
theorem dn_He_62 : decode prog_4_method_1_code 62 = .ok (.newarray .int, 2) := by decide +kernel
theorem dn_He_64 : decode prog_4_method_1_code 64 = .ok (.putfield 34, 3) := by decide +kernel
theorem dn_He_67 : decode prog_4_method_1_code 67 = .ok (.aload_n 0, 1) := by decide +kernel
theorem dn_He_68 : decode prog_4_method_1_code 68 = .ok (.bipush 40, 2) := by decide +kernel
theorem dn_He_70 : decode prog_4_method_1_code 70 = .ok (.newarray .boolean, 2) := by decide +kernel
theorem dn_He_72 : decode prog_4_method_1_code 72 = .ok (.putfield 37, 3) := by decide +kernel
theorem dn_He_75 : decode prog_4_method_1_code 75 = .ok (.aload_n 0, 1) := by decide +kernel
theorem dn_He_76 : decode prog_4_method_1_code 76 = .ok (.aload_n 1, 1) := by decide +kernel
theorem dn_He_77 : decode prog_4_method_1_code 77 = .ok (.putfield 40, 3) := by decide +kernel
theorem dn_He_80 : decode prog_4_method_1_code 80 = .ok (.aload_n 0, 1) := by decide +kernel
theorem dn_He_81 : decode prog_4_method_1_code 81 = .ok (.aload_n 2, 1) := by decide +kernel
theorem dn_He_82 : decode prog_4_method_1_code 82 = .ok (.putfield 44, 3) := by decide +kernel
theorem dn_He_85 : decode prog_4_method_1_code 85 = .ok (.aload_n 0, 1) := by decide +kernel
theorem dn_He_86 : decode prog_4_method_1_code 86 = .ok (.aload_n 3, 1) := by decide +kernel
theorem dn_He_87 : decode prog_4_method_1_code 87 = .ok (.putfield 48, 3) := by decide +kernel
theorem dn_He_90 : decode prog_4_method_1_code 90 = .ok (.aload_n 0, 1) := by decide +kernel
theorem dn_He_91 : decode prog_4_method_1_code 91 = .ok (.aload 4, 2) := by decide +kernel
theorem dn_He_93 : decode prog_4_method_1_code 93 = .ok (.putfield 52, 3) := by decide +kernel
theorem dn_He_96 : decode prog_4_method_1_code 96 = .ok (.iconst 0, 1) := by decide +kernel
theorem dn_He_97 : decode prog_4_method_1_code 97 = .ok (.istore 5, 2) := by decide +kernel
theorem dn_He_99 : decode prog_4_method_1_code 99 = .ok (.iload 5, 2) := by decide +kernel
theorem dn_He_101 : decode prog_4_method_1_code 101 = .ok (.bipush 40, 2) := by decide +kernel
theorem dn_He_103 : decode prog_4_method_1_code 103 = .ok (.if_icmp .ge 18, 3) := by decide +kernel
theorem dn_He_106 : decode prog_4_method_1_code 106 = .ok (.aload_n 0, 1) := by decide +kernel
theorem dn_He_107 : decode prog_4_method_1_code 107 = .ok (.getfield 9, 3) := by decide +kernel
theorem dn_He_110 : decode prog_4_method_1_code 110 = .ok (.iload 5, 2) := by decide +kernel
theorem dn_He_112 : decode prog_4_method_1_code 112 = .ok (.bipush (-4), 2) := by decide +kernel
theorem dn_He_114 : decode prog_4_method_1_code 114 = .ok (.iastore, 1) := by decide +kernel
theorem dn_He_115 : decode prog_4_method_1_code 115 = .ok (.iinc 5 1, 3) := by decide +kernel
theorem dn_He_118 : decode prog_4_method_1_code 118 = .ok (.goto (-19), 3) := by decide +kernel
theorem dn_He_121 : decode prog_4_method_1_code 121 = .ok (.iconst 0, 1) := by decide +kernel
theorem dn_He_122 : decode prog_4_method_1_code 122 = .ok (.istore 5, 2) := by decide +kernel
theorem dn_He_124 : decode prog_4_method_1_code 124 = .ok (.iload 5, 2) := by decide +kernel
theorem dn_He_126 : decode prog_4_method_1_code 126 = .ok (.bipush 8, 2) := by decide +kernel
theorem dn_He_128 : decode prog_4_method_1_code 128 = .ok (.if_icmp .ge 17, 3) := by decide +kernel
theorem dn_He_131 : decode prog_4_method_1_code 131 = .ok (.aload_n 0, 1) := by decide +kernel
theorem dn_He_132 : decode prog_4_method_1_code 132 = .ok (.getfield 28, 3) := by decide +kernel
theorem dn_He_135 : decode prog_4_method_1_code 135 = .ok (.iload 5, 2) := by decide +kernel
theorem dn_He_137 : decode prog_4_method_1_code 137 = .ok (.iconst (-1), 1) := by decide +kernel
theorem dn_He_138 : decode prog_4_method_1_code 138 = .ok (.iastore, 1) := by decide +kernel
theorem dn_He_139 : decode prog_4_method_1_code 139 = .ok (.iinc 5 1, 3) := by decide +kernel
theorem dn_He_142 : decode prog_4_method_1_code 142 = .ok (.goto (-18), 3) := by decide +kernel
theorem dn_He_145 : decode prog_4_method_1_code 145 = .ok (.iconst 0, 1) := by decide +kernel
theorem dn_He_146 : decode prog_4_method_1_code 146 = .ok (.istore 5, 2) := by decide +kernel
theorem dn_He_148 : decode prog_4_method_1_code 148 = .ok (.iload 5, 2) := by decide +kernel
theorem dn_He_150 : decode prog_4_method_1_code 150 = .ok (.iconst 4, 1) := by decide +kernel
theorem dn_He_151 : decode prog_4_method_1_code 151 = .ok (.if_icmp .ge 17, 3) := by decide +kernel
theorem dn_He_154 : decode prog_4_method_1_code 154 = .ok (.aload_n 0, 1) := by decide +kernel
theorem dn_He_155 : decode prog_4_method_1_code 155 = .ok (.getfield 31, 3) := by decide +kernel
theorem dn_He_158 : decode prog_4_method_1_code 158 = .ok (.iload 5, 2) := by decide +kernel
theorem dn_He_160 : decode prog_4_method_1_code 160 = .ok (.iconst (-1), 1) := by decide +kernel
theorem dn_He_161 : decode prog_4_method_1_code 161 = .ok (.iastore, 1) := by decide +kernel
theorem dn_He_162 : decode prog_4_method_1_code 162 = .ok (.iinc 5 1, 3) := by decide +kernel
theorem dn_He_165 : decode prog_4_method_1_code 165 = .ok (.goto (-17), 3) := by decide +kernel
theorem dn_He_168 : decode prog_4_method_1_code 168 = .ok (.return_, 1) := by decide +kernel
def nT_He_0 : nT := [(28, .inr (2, nvs kY2 14))]
theorem nwm_2_3 : Cond.methodLink kR2 3 objectInit ∈ gTb := gmem 254 (by decide +kernel) (by decide +kernel)
def nT_He_1 : nT := [(28, .inr (2, [none, none, none, none, none, none, none, none, none, nint 0, none, none, none, none])), (29, .inl (0, (40, z0)))]
theorem nwf_2_9 : Cond.fieldLink kR2 9 kR2 "address" "[I" ∈ gTb := gmem 255 (by decide +kernel) (by decide +kernel)
def nT_He_2 : nT := [(28, .inr (2, [nref 29, none, none, none, none, none, none, none, none, nint 0, none, none, none, none])), (29, .inl (0, (40, z0)))]
def nT_He_3 : nT := [(28, .inr (2, [nref 29, none, none, none, none, none, none, none, none, nint 0, none, none, none, none])), (29, .inl (0, (40, z0))), (30, .inl (0, (40, z0)))]
theorem nwf_2_15 : Cond.fieldLink kR2 15 kR2 "fields" "[I" ∈ gTb := gmem 257 (by decide +kernel) (by decide +kernel)
def nT_He_4 : nT := [(28, .inr (2, [nref 29, nref 30, none, none, none, none, none, none, none, nint 0, none, none, none, none])), (29, .inl (0, (40, z0))), (30, .inl (0, (40, z0)))]
def nT_He_5 : nT := [(28, .inr (2, [nref 29, nref 30, none, none, none, none, none, none, none, nint 0, none, none, none, none])), (29, .inl (0, (40, z0))), (30, .inl (0, (40, z0))), (31, .inl (0, (40, z0)))]
theorem nwf_2_18 : Cond.fieldLink kR2 18 kR2 "age" "[I" ∈ gTb := gmem 259 (by decide +kernel) (by decide +kernel)
def nT_He_6 : nT := [(28, .inr (2, [nref 29, nref 30, nref 31, none, none, none, none, none, none, nint 0, none, none, none, none])), (29, .inl (0, (40, z0))), (30, .inl (0, (40, z0))), (31, .inl (0, (40, z0)))]
def nT_He_7 : nT := [(28, .inr (2, [nref 29, nref 30, nref 31, none, none, none, none, none, none, nint 0, none, none, none, none])), (29, .inl (0, (40, z0))), (30, .inl (0, (40, z0))), (31, .inl (0, (40, z0))), (32, .inl (1, (40, z0)))]
theorem nwf_2_21 : Cond.fieldLink kR2 21 kR2 "rite" "[Z" ∈ gTb := gmem 261 (by decide +kernel) (by decide +kernel)
def nT_He_8 : nT := [(28, .inr (2, [nref 29, nref 30, nref 31, nref 32, none, none, none, none, none, nint 0, none, none, none, none])), (29, .inl (0, (40, z0))), (30, .inl (0, (40, z0))), (31, .inl (0, (40, z0))), (32, .inl (1, (40, z0)))]
def nT_He_9 : nT := [(28, .inr (2, [nref 29, nref 30, nref 31, nref 32, none, none, none, none, none, nint 0, none, none, none, none])), (29, .inl (0, (40, z0))), (30, .inl (0, (40, z0))), (31, .inl (0, (40, z0))), (32, .inl (1, (40, z0))), (33, .inl (0, (40, z0)))]
theorem nwf_2_25 : Cond.fieldLink kR2 25 kR2 "ticks" "[I" ∈ gTb := gmem 263 (by decide +kernel) (by decide +kernel)
def nT_He_10 : nT := [(28, .inr (2, [nref 29, nref 30, nref 31, nref 32, nref 33, none, none, none, none, nint 0, none, none, none, none])), (29, .inl (0, (40, z0))), (30, .inl (0, (40, z0))), (31, .inl (0, (40, z0))), (32, .inl (1, (40, z0))), (33, .inl (0, (40, z0)))]
def nT_He_11 : nT := [(28, .inr (2, [nref 29, nref 30, nref 31, nref 32, nref 33, none, none, none, none, nint 0, none, none, none, none])), (29, .inl (0, (40, z0))), (30, .inl (0, (40, z0))), (31, .inl (0, (40, z0))), (32, .inl (1, (40, z0))), (33, .inl (0, (40, z0))), (34, .inl (0, (8, z0)))]
theorem nwf_2_28 : Cond.fieldLink kR2 28 kR2 "roots" "[I" ∈ gTb := gmem 265 (by decide +kernel) (by decide +kernel)
def nT_He_12 : nT := [(28, .inr (2, [nref 29, nref 30, nref 31, nref 32, nref 33, nref 34, none, none, none, nint 0, none, none, none, none])), (29, .inl (0, (40, z0))), (30, .inl (0, (40, z0))), (31, .inl (0, (40, z0))), (32, .inl (1, (40, z0))), (33, .inl (0, (40, z0))), (34, .inl (0, (8, z0)))]
def nT_He_13 : nT := [(28, .inr (2, [nref 29, nref 30, nref 31, nref 32, nref 33, nref 34, none, none, none, nint 0, none, none, none, none])), (29, .inl (0, (40, z0))), (30, .inl (0, (40, z0))), (31, .inl (0, (40, z0))), (32, .inl (1, (40, z0))), (33, .inl (0, (40, z0))), (34, .inl (0, (8, z0))), (35, .inl (0, (4, z0)))]
theorem nwf_2_31 : Cond.fieldLink kR2 31 kR2 "weak" "[I" ∈ gTb := gmem 267 (by decide +kernel) (by decide +kernel)
def nT_He_14 : nT := [(28, .inr (2, [nref 29, nref 30, nref 31, nref 32, nref 33, nref 34, nref 35, none, none, nint 0, none, none, none, none])), (29, .inl (0, (40, z0))), (30, .inl (0, (40, z0))), (31, .inl (0, (40, z0))), (32, .inl (1, (40, z0))), (33, .inl (0, (40, z0))), (34, .inl (0, (8, z0))), (35, .inl (0, (4, z0)))]
def nT_He_15 : nT := [(28, .inr (2, [nref 29, nref 30, nref 31, nref 32, nref 33, nref 34, nref 35, none, none, nint 0, none, none, none, none])), (29, .inl (0, (40, z0))), (30, .inl (0, (40, z0))), (31, .inl (0, (40, z0))), (32, .inl (1, (40, z0))), (33, .inl (0, (40, z0))), (34, .inl (0, (8, z0))), (35, .inl (0, (4, z0))), (36, .inl (0, (40, z0)))]
theorem nwf_2_34 : Cond.fieldLink kR2 34 kR2 "row" "[I" ∈ gTb := gmem 269 (by decide +kernel) (by decide +kernel)
def nT_He_16 : nT := [(28, .inr (2, [nref 29, nref 30, nref 31, nref 32, nref 33, nref 34, nref 35, nref 36, none, nint 0, none, none, none, none])), (29, .inl (0, (40, z0))), (30, .inl (0, (40, z0))), (31, .inl (0, (40, z0))), (32, .inl (1, (40, z0))), (33, .inl (0, (40, z0))), (34, .inl (0, (8, z0))), (35, .inl (0, (4, z0))), (36, .inl (0, (40, z0)))]
def nT_He_17 : nT := [(28, .inr (2, [nref 29, nref 30, nref 31, nref 32, nref 33, nref 34, nref 35, nref 36, none, nint 0, none, none, none, none])), (29, .inl (0, (40, z0))), (30, .inl (0, (40, z0))), (31, .inl (0, (40, z0))), (32, .inl (1, (40, z0))), (33, .inl (0, (40, z0))), (34, .inl (0, (8, z0))), (35, .inl (0, (4, z0))), (36, .inl (0, (40, z0))), (37, .inl (1, (40, z0)))]
theorem nwf_2_37 : Cond.fieldLink kR2 37 kR2 "inRow" "[Z" ∈ gTb := gmem 270 (by decide +kernel) (by decide +kernel)
def nT_He_18 : nT := [(28, .inr (2, [nref 29, nref 30, nref 31, nref 32, nref 33, nref 34, nref 35, nref 36, nref 37, nint 0, none, none, none, none])), (29, .inl (0, (40, z0))), (30, .inl (0, (40, z0))), (31, .inl (0, (40, z0))), (32, .inl (1, (40, z0))), (33, .inl (0, (40, z0))), (34, .inl (0, (8, z0))), (35, .inl (0, (4, z0))), (36, .inl (0, (40, z0))), (37, .inl (1, (40, z0)))]
theorem nwf_2_40 : Cond.fieldLink kR2 40 kR2 "ledger" "LCellToObject$Ledger;" ∈ gTb := gmem 272 (by decide +kernel) (by decide +kernel)
def nT_He_19 : nT := [(28, .inr (2, [nref 29, nref 30, nref 31, nref 32, nref 33, nref 34, nref 35, nref 36, nref 37, nint 0, nref 2, none, none, none])), (29, .inl (0, (40, z0))), (30, .inl (0, (40, z0))), (31, .inl (0, (40, z0))), (32, .inl (1, (40, z0))), (33, .inl (0, (40, z0))), (34, .inl (0, (8, z0))), (35, .inl (0, (4, z0))), (36, .inl (0, (40, z0))), (37, .inl (1, (40, z0)))]
theorem nwf_2_44 : Cond.fieldLink kR2 44 kR2 "caches" "LCellToObject$Caches;" ∈ gTb := gmem 273 (by decide +kernel) (by decide +kernel)
def nT_He_20 : nT := [(28, .inr (2, [nref 29, nref 30, nref 31, nref 32, nref 33, nref 34, nref 35, nref 36, nref 37, nint 0, nref 2, nref 9, none, none])), (29, .inl (0, (40, z0))), (30, .inl (0, (40, z0))), (31, .inl (0, (40, z0))), (32, .inl (1, (40, z0))), (33, .inl (0, (40, z0))), (34, .inl (0, (8, z0))), (35, .inl (0, (4, z0))), (36, .inl (0, (40, z0))), (37, .inl (1, (40, z0)))]
theorem nwf_2_48 : Cond.fieldLink kR2 48 kR2 "memory" "LCellToObject$Memory;" ∈ gTb := gmem 274 (by decide +kernel) (by decide +kernel)
def nT_He_21 : nT := [(28, .inr (2, [nref 29, nref 30, nref 31, nref 32, nref 33, nref 34, nref 35, nref 36, nref 37, nint 0, nref 2, nref 9, nref 17, none])), (29, .inl (0, (40, z0))), (30, .inl (0, (40, z0))), (31, .inl (0, (40, z0))), (32, .inl (1, (40, z0))), (33, .inl (0, (40, z0))), (34, .inl (0, (8, z0))), (35, .inl (0, (4, z0))), (36, .inl (0, (40, z0))), (37, .inl (1, (40, z0)))]
theorem nwf_2_52 : Cond.fieldLink kR2 52 kR2 "rules" "[I" ∈ gTb := gmem 275 (by decide +kernel) (by decide +kernel)
def nT_He_22 : nT := [(28, .inr (2, [nref 29, nref 30, nref 31, nref 32, nref 33, nref 34, nref 35, nref 36, nref 37, nint 0, nref 2, nref 9, nref 17, nref 1])), (29, .inl (0, (40, z0))), (30, .inl (0, (40, z0))), (31, .inl (0, (40, z0))), (32, .inl (1, (40, z0))), (33, .inl (0, (40, z0))), (34, .inl (0, (8, z0))), (35, .inl (0, (4, z0))), (36, .inl (0, (40, z0))), (37, .inl (1, (40, z0)))]
def nT_He_l1 (a : Int) : nT := [(28, .inr (2, [nref 29, nref 30, nref 31, nref 32, nref 33, nref 34, nref 35, nref 36, nref 37, nint 0, nref 2, nref 9, nref 17, nref 1])), (29, .inl (0, (40, fl (-4) a))), (30, .inl (0, (40, z0))), (31, .inl (0, (40, z0))), (32, .inl (1, (40, z0))), (33, .inl (0, (40, z0))), (34, .inl (0, (8, z0))), (35, .inl (0, (4, z0))), (36, .inl (0, (40, z0))), (37, .inl (1, (40, z0)))]
theorem nT_He_l1_0 : nT_He_l1 0 = nT_He_22 := by
  unfold nT_He_l1 nT_He_22
  simp only [fl_0]
def nT_He_l2 (a : Int) : nT := [(28, .inr (2, [nref 29, nref 30, nref 31, nref 32, nref 33, nref 34, nref 35, nref 36, nref 37, nint 0, nref 2, nref 9, nref 17, nref 1])), (29, .inl (0, (40, fl (-4) 40))), (30, .inl (0, (40, z0))), (31, .inl (0, (40, z0))), (32, .inl (1, (40, z0))), (33, .inl (0, (40, z0))), (34, .inl (0, (8, fl (-1) a))), (35, .inl (0, (4, z0))), (36, .inl (0, (40, z0))), (37, .inl (1, (40, z0)))]
theorem nT_He_l2_0 : nT_He_l2 0 = (nT_He_l1 40) := by
  unfold nT_He_l2 nT_He_l1
  simp only [fl_0]
def nT_He_l3 (a : Int) : nT := [(28, .inr (2, [nref 29, nref 30, nref 31, nref 32, nref 33, nref 34, nref 35, nref 36, nref 37, nint 0, nref 2, nref 9, nref 17, nref 1])), (29, .inl (0, (40, fl (-4) 40))), (30, .inl (0, (40, z0))), (31, .inl (0, (40, z0))), (32, .inl (1, (40, z0))), (33, .inl (0, (40, z0))), (34, .inl (0, (8, fl (-1) 8))), (35, .inl (0, (4, fl (-1) a))), (36, .inl (0, (40, z0))), (37, .inl (1, (40, z0)))]
theorem nT_He_l3_0 : nT_He_l3 0 = (nT_He_l2 8) := by
  unfold nT_He_l3 nT_He_l2
  simp only [fl_0]
set_option maxRecDepth 20000 in
set_option maxHeartbeats 4000000 in
theorem cn_He : nCt Yn_Heap prog_4_method_1_code 6 1 12 9 292 29 [nref 28, nref 2, nref 9, nref 17, nref 1] [(28, .inr (2, nvs kY2 14))] (nT_He_l3 4) := n_entry (by decide) rfl rfl (by decide) fun X C => by
  show NN 29 X 0 [(0, nref 28), (1, nref 2), (2, nref 9), (3, nref 17), (4, nref 1)] [] nT_He_0 0 0
  refine n_aload_n C dn_He_0 rfl 0 rfl ?_
  refine n_objInit C nwm_2_3 nwo_1 nwo_2 (by decide) (by decide) dn_He_1 ?_
  refine n_aload_n C dn_He_4 rfl 0 rfl ?_
  refine n_bipush C dn_He_5 (by decide) ?_
  refine n_newi C (n := 40) (id := 29) (T' := nT_He_1) nwa_int (by decide) rfl rfl (by decide) (k' := 1) (j' := 40) rfl rfl (by decide) (by decide) rfl dn_He_7 ?_
  refine n_put C (pos := 0) (f := 0) (ci := 2) (id := 28) (T' := nT_He_2) (d := "[I") (fin := true) rfl kI2 kO2 kN2 rfl (by decide) rfl rfl nwf_2_9 (ty := kY2 0) (by decide +kernel) (fun _ => rfl) (fun _ => rfl) (by decide) dn_He_9 ?_
  refine n_aload_n C dn_He_12 rfl 0 rfl ?_
  refine n_bipush C dn_He_13 (by decide) ?_
  refine n_newi C (n := 40) (id := 30) (T' := nT_He_3) nwa_int (by decide) rfl rfl (by decide) (k' := 2) (j' := 80) rfl rfl (by decide) (by decide) rfl dn_He_15 ?_
  refine n_put C (pos := 0) (f := 1) (ci := 2) (id := 28) (T' := nT_He_4) (d := "[I") (fin := true) rfl kI2 kO2 kN2 rfl (by decide) rfl rfl nwf_2_15 (ty := kY2 1) (by decide +kernel) (fun _ => rfl) (fun _ => rfl) (by decide) dn_He_17 ?_
  refine n_aload_n C dn_He_20 rfl 0 rfl ?_
  refine n_bipush C dn_He_21 (by decide) ?_
  refine n_newi C (n := 40) (id := 31) (T' := nT_He_5) nwa_int (by decide) rfl rfl (by decide) (k' := 3) (j' := 120) rfl rfl (by decide) (by decide) rfl dn_He_23 ?_
  refine n_put C (pos := 0) (f := 2) (ci := 2) (id := 28) (T' := nT_He_6) (d := "[I") (fin := true) rfl kI2 kO2 kN2 rfl (by decide) rfl rfl nwf_2_18 (ty := kY2 2) (by decide +kernel) (fun _ => rfl) (fun _ => rfl) (by decide) dn_He_25 ?_
  refine n_aload_n C dn_He_28 rfl 0 rfl ?_
  refine n_bipush C dn_He_29 (by decide) ?_
  refine n_newb C (n := 40) (id := 32) (T' := nT_He_7) nwa_boolean (by decide) rfl rfl (by decide) (k' := 4) (j' := 160) rfl rfl (by decide) (by decide) rfl dn_He_31 ?_
  refine n_put C (pos := 0) (f := 3) (ci := 2) (id := 28) (T' := nT_He_8) (d := "[Z") (fin := true) rfl kI2 kO2 kN2 rfl (by decide) rfl rfl nwf_2_21 (ty := kY2 3) (by decide +kernel) (fun _ => rfl) (fun _ => rfl) (by decide) dn_He_33 ?_
  refine n_aload_n C dn_He_36 rfl 0 rfl ?_
  refine n_bipush C dn_He_37 (by decide) ?_
  refine n_newi C (n := 40) (id := 33) (T' := nT_He_9) nwa_int (by decide) rfl rfl (by decide) (k' := 5) (j' := 200) rfl rfl (by decide) (by decide) rfl dn_He_39 ?_
  refine n_put C (pos := 0) (f := 4) (ci := 2) (id := 28) (T' := nT_He_10) (d := "[I") (fin := true) rfl kI2 kO2 kN2 rfl (by decide) rfl rfl nwf_2_25 (ty := kY2 4) (by decide +kernel) (fun _ => rfl) (fun _ => rfl) (by decide) dn_He_41 ?_
  refine n_aload_n C dn_He_44 rfl 0 rfl ?_
  refine n_bipush C dn_He_45 (by decide) ?_
  refine n_newi C (n := 8) (id := 34) (T' := nT_He_11) nwa_int (by decide) rfl rfl (by decide) (k' := 6) (j' := 208) rfl rfl (by decide) (by decide) rfl dn_He_47 ?_
  refine n_put C (pos := 0) (f := 5) (ci := 2) (id := 28) (T' := nT_He_12) (d := "[I") (fin := true) rfl kI2 kO2 kN2 rfl (by decide) rfl rfl nwf_2_28 (ty := kY2 5) (by decide +kernel) (fun _ => rfl) (fun _ => rfl) (by decide) dn_He_49 ?_
  refine n_aload_n C dn_He_52 rfl 0 rfl ?_
  refine n_iconst C dn_He_53 ?_
  refine n_newi C (n := 4) (id := 35) (T' := nT_He_13) nwa_int (by decide) rfl rfl (by decide) (k' := 7) (j' := 212) rfl rfl (by decide) (by decide) rfl dn_He_54 ?_
  refine n_put C (pos := 0) (f := 6) (ci := 2) (id := 28) (T' := nT_He_14) (d := "[I") (fin := true) rfl kI2 kO2 kN2 rfl (by decide) rfl rfl nwf_2_31 (ty := kY2 6) (by decide +kernel) (fun _ => rfl) (fun _ => rfl) (by decide) dn_He_56 ?_
  refine n_aload_n C dn_He_59 rfl 0 rfl ?_
  refine n_bipush C dn_He_60 (by decide) ?_
  refine n_newi C (n := 40) (id := 36) (T' := nT_He_15) nwa_int (by decide) rfl rfl (by decide) (k' := 8) (j' := 252) rfl rfl (by decide) (by decide) rfl dn_He_62 ?_
  refine n_put C (pos := 0) (f := 7) (ci := 2) (id := 28) (T' := nT_He_16) (d := "[I") (fin := true) rfl kI2 kO2 kN2 rfl (by decide) rfl rfl nwf_2_34 (ty := kY2 7) (by decide +kernel) (fun _ => rfl) (fun _ => rfl) (by decide) dn_He_64 ?_
  refine n_aload_n C dn_He_67 rfl 0 rfl ?_
  refine n_bipush C dn_He_68 (by decide) ?_
  refine n_newb C (n := 40) (id := 37) (T' := nT_He_17) nwa_boolean (by decide) rfl rfl (by decide) (k' := 9) (j' := 292) rfl rfl (by decide) (by decide) rfl dn_He_70 ?_
  refine n_put C (pos := 0) (f := 8) (ci := 2) (id := 28) (T' := nT_He_18) (d := "[Z") (fin := true) rfl kI2 kO2 kN2 rfl (by decide) rfl rfl nwf_2_37 (ty := kY2 8) (by decide +kernel) (fun _ => rfl) (fun _ => rfl) (by decide) dn_He_72 ?_
  refine n_aload_n C dn_He_75 rfl 0 rfl ?_
  refine n_aload_n C dn_He_76 rfl 1 rfl ?_
  refine n_put C (pos := 0) (f := 10) (ci := 2) (id := 28) (T' := nT_He_19) (d := "LCellToObject$Ledger;") (fin := true) rfl kI2 kO2 kN2 rfl (by decide) rfl rfl nwf_2_40 (ty := kY2 10) (by decide +kernel) (fun _ => rfl) (fun _ => rfl) (by decide) dn_He_77 ?_
  refine n_aload_n C dn_He_80 rfl 0 rfl ?_
  refine n_aload_n C dn_He_81 rfl 2 rfl ?_
  refine n_put C (pos := 0) (f := 11) (ci := 2) (id := 28) (T' := nT_He_20) (d := "LCellToObject$Caches;") (fin := true) rfl kI2 kO2 kN2 rfl (by decide) rfl rfl nwf_2_44 (ty := kY2 11) (by decide +kernel) (fun _ => rfl) (fun _ => rfl) (by decide) dn_He_82 ?_
  refine n_aload_n C dn_He_85 rfl 0 rfl ?_
  refine n_aload_n C dn_He_86 rfl 3 rfl ?_
  refine n_put C (pos := 0) (f := 12) (ci := 2) (id := 28) (T' := nT_He_21) (d := "LCellToObject$Memory;") (fin := true) rfl kI2 kO2 kN2 rfl (by decide) rfl rfl nwf_2_48 (ty := kY2 12) (by decide +kernel) (fun _ => rfl) (fun _ => rfl) (by decide) dn_He_87 ?_
  refine n_aload_n C dn_He_90 rfl 0 rfl ?_
  refine n_aload C dn_He_91 4 rfl ?_
  refine n_put C (pos := 0) (f := 13) (ci := 2) (id := 28) (T' := nT_He_22) (d := "[I") (fin := true) rfl kI2 kO2 kN2 rfl (by decide) rfl rfl nwf_2_52 (ty := kY2 13) (by decide +kernel) (fun _ => rfl) (fun _ => rfl) (by decide) dn_He_93 ?_
  refine n_iconst C dn_He_96 ?_
  refine n_istore C dn_He_97 (by decide) (L' := [(5, nint 0), (0, nref 28), (1, nref 2), (2, nref 9), (3, nref 17), (4, nref 1)]) rfl ?_
  rw [← nT_He_l1_0]
  refine n_loop (L := fun i => [(5, nint i), (0, nref 28), (1, nref 2), (2, nref 9), (3, nref 17), (4, nref 1)]) (T := fun i => nT_He_l1 i) (hi := 40) (fun i i1 i2 ih => ?_) ?_ 200 0 (by omega) (by omega) (by omega)
  · show NN 29 X 99 [(5, nint i), (0, nref 28), (1, nref 2), (2, nref 9), (3, nref 17), (4, nref 1)] [] (nT_He_l1 i) 9 292
    refine n_iload C dn_He_99 0 rfl ?_
    refine n_bipush C dn_He_101 (by decide) ?_
    refine n_icmp_ge C (tgt := 121) ⟨by omega, by omega⟩ ⟨by decide, by decide⟩ dn_He_103 (by decide) (fun c => absurd c (by omega)) (fun _ => ?_)
    refine n_aload_n C dn_He_106 rfl 1 rfl ?_
    refine n_get C (pos := 0) (f := 0) (ci := 2) (cn := kR2) (d := "[I") rfl kI2 rfl (by decide) (v := nref 29) rfl rfl nwf_2_9 dn_He_107 ?_
    refine n_iload C dn_He_110 0 rfl ?_
    refine n_bipush C dn_He_112 (by decide) ?_
    refine n_iast C (pos := 1) (T' := (nT_He_l1 (i + 1))) rfl ⟨i1, i2⟩ ⟨by omega, by omega⟩ (by rw [fl_s i1]; rfl) dn_He_114 ?_
    refine n_iinc C (t := 0) (x := i) dn_He_115 rfl (by decide) (L' := [(5, nint (i + 1)), (0, nref 28), (1, nref 2), (2, nref 9), (3, nref 17), (4, nref 1)]) rfl ?_
    exact n_goto C (tgt := 99) dn_He_118 (by decide) ih
  show NN 29 X 99 [(5, nint 40), (0, nref 28), (1, nref 2), (2, nref 9), (3, nref 17), (4, nref 1)] [] (nT_He_l1 40) 9 292
  refine n_iload C dn_He_99 0 rfl ?_
  refine n_bipush C dn_He_101 (by decide) ?_
  refine n_icmp_ge C (tgt := 121) ⟨by decide, by decide⟩ ⟨by decide, by decide⟩ dn_He_103 (by decide) (fun _ => ?_) (fun c => absurd (by decide) c)
  refine n_sub (L' := [(0, nref 28), (1, nref 2), (2, nref 9), (3, nref 17), (4, nref 1)]) [1, 2, 3, 4, 5] rfl ?_
  refine n_iconst C dn_He_121 ?_
  refine n_istore C dn_He_122 (by decide) (L' := [(5, nint 0), (0, nref 28), (1, nref 2), (2, nref 9), (3, nref 17), (4, nref 1)]) rfl ?_
  rw [← nT_He_l2_0]
  refine n_loop (L := fun i => [(5, nint i), (0, nref 28), (1, nref 2), (2, nref 9), (3, nref 17), (4, nref 1)]) (T := fun i => nT_He_l2 i) (hi := 8) (fun i i1 i2 ih => ?_) ?_ 200 0 (by omega) (by omega) (by omega)
  · show NN 29 X 124 [(5, nint i), (0, nref 28), (1, nref 2), (2, nref 9), (3, nref 17), (4, nref 1)] [] (nT_He_l2 i) 9 292
    refine n_iload C dn_He_124 0 rfl ?_
    refine n_bipush C dn_He_126 (by decide) ?_
    refine n_icmp_ge C (tgt := 145) ⟨by omega, by omega⟩ ⟨by decide, by decide⟩ dn_He_128 (by decide) (fun c => absurd c (by omega)) (fun _ => ?_)
    refine n_aload_n C dn_He_131 rfl 1 rfl ?_
    refine n_get C (pos := 0) (f := 5) (ci := 2) (cn := kR2) (d := "[I") rfl kI2 rfl (by decide) (v := nref 34) rfl rfl nwf_2_28 dn_He_132 ?_
    refine n_iload C dn_He_135 0 rfl ?_
    refine n_iconst C dn_He_137 ?_
    refine n_iast C (pos := 6) (T' := (nT_He_l2 (i + 1))) rfl ⟨i1, i2⟩ ⟨by omega, by omega⟩ (by rw [fl_s i1]; rfl) dn_He_138 ?_
    refine n_iinc C (t := 0) (x := i) dn_He_139 rfl (by decide) (L' := [(5, nint (i + 1)), (0, nref 28), (1, nref 2), (2, nref 9), (3, nref 17), (4, nref 1)]) rfl ?_
    exact n_goto C (tgt := 124) dn_He_142 (by decide) ih
  show NN 29 X 124 [(5, nint 8), (0, nref 28), (1, nref 2), (2, nref 9), (3, nref 17), (4, nref 1)] [] (nT_He_l2 8) 9 292
  refine n_iload C dn_He_124 0 rfl ?_
  refine n_bipush C dn_He_126 (by decide) ?_
  refine n_icmp_ge C (tgt := 145) ⟨by decide, by decide⟩ ⟨by decide, by decide⟩ dn_He_128 (by decide) (fun _ => ?_) (fun c => absurd (by decide) c)
  refine n_sub (L' := [(0, nref 28), (1, nref 2), (2, nref 9), (3, nref 17), (4, nref 1)]) [1, 2, 3, 4, 5] rfl ?_
  refine n_iconst C dn_He_145 ?_
  refine n_istore C dn_He_146 (by decide) (L' := [(5, nint 0), (0, nref 28), (1, nref 2), (2, nref 9), (3, nref 17), (4, nref 1)]) rfl ?_
  rw [← nT_He_l3_0]
  refine n_loop (L := fun i => [(5, nint i), (0, nref 28), (1, nref 2), (2, nref 9), (3, nref 17), (4, nref 1)]) (T := fun i => nT_He_l3 i) (hi := 4) (fun i i1 i2 ih => ?_) ?_ 200 0 (by omega) (by omega) (by omega)
  · show NN 29 X 148 [(5, nint i), (0, nref 28), (1, nref 2), (2, nref 9), (3, nref 17), (4, nref 1)] [] (nT_He_l3 i) 9 292
    refine n_iload C dn_He_148 0 rfl ?_
    refine n_iconst C dn_He_150 ?_
    refine n_icmp_ge C (tgt := 168) ⟨by omega, by omega⟩ ⟨by decide, by decide⟩ dn_He_151 (by decide) (fun c => absurd c (by omega)) (fun _ => ?_)
    refine n_aload_n C dn_He_154 rfl 1 rfl ?_
    refine n_get C (pos := 0) (f := 6) (ci := 2) (cn := kR2) (d := "[I") rfl kI2 rfl (by decide) (v := nref 35) rfl rfl nwf_2_31 dn_He_155 ?_
    refine n_iload C dn_He_158 0 rfl ?_
    refine n_iconst C dn_He_160 ?_
    refine n_iast C (pos := 7) (T' := (nT_He_l3 (i + 1))) rfl ⟨i1, i2⟩ ⟨by omega, by omega⟩ (by rw [fl_s i1]; rfl) dn_He_161 ?_
    refine n_iinc C (t := 0) (x := i) dn_He_162 rfl (by decide) (L' := [(5, nint (i + 1)), (0, nref 28), (1, nref 2), (2, nref 9), (3, nref 17), (4, nref 1)]) rfl ?_
    exact n_goto C (tgt := 148) dn_He_165 (by decide) ih
  show NN 29 X 148 [(5, nint 4), (0, nref 28), (1, nref 2), (2, nref 9), (3, nref 17), (4, nref 1)] [] (nT_He_l3 4) 9 292
  refine n_iload C dn_He_148 0 rfl ?_
  refine n_iconst C dn_He_150 ?_
  refine n_icmp_ge C (tgt := 168) ⟨by decide, by decide⟩ ⟨by decide, by decide⟩ dn_He_151 (by decide) (fun _ => ?_) (fun c => absurd (by decide) c)
  refine n_sub (L' := [(0, nref 28), (1, nref 2), (2, nref 9), (3, nref 17), (4, nref 1)]) [1, 2, 3, 4, 5] rfl ?_
  exact n_vret C dn_He_168
/-! CellToObject -/
def Yn_Class : MethodName := ⟨kR6, "<init>", "()V"⟩
theorem dn_Co_0 : decode prog_1_method_1_code 0 = .ok (.aload_n 0, 1) := by decide +kernel
theorem dn_Co_1 : decode prog_1_method_1_code 1 = .ok (.invokespecial 1, 3) := by decide +kernel
theorem dn_Co_4 : decode prog_1_method_1_code 4 = .ok (.aload_n 0, 1) := by decide +kernel
theorem dn_Co_5 : decode prog_1_method_1_code 5 = .ok (.iconst 4, 1) := by decide +kernel
theorem dn_Co_6 : decode prog_1_method_1_code 6 = .ok (.newarray .int, 2) := by decide +kernel
theorem dn_Co_8 : decode prog_1_method_1_code 8 = .ok (.dup, 1) := by decide +kernel
theorem dn_Co_9 : decode prog_1_method_1_code 9 = .ok (.iconst 0, 1) := by decide +kernel
theorem dn_Co_10 : decode prog_1_method_1_code 10 = .ok (.iconst 0, 1) := by decide +kernel
theorem dn_Co_11 : decode prog_1_method_1_code 11 = .ok (.iastore, 1) := by decide +kernel
theorem dn_Co_12 : decode prog_1_method_1_code 12 = .ok (.dup, 1) := by decide +kernel
theorem dn_Co_13 : decode prog_1_method_1_code 13 = .ok (.iconst 1, 1) := by decide +kernel
theorem dn_Co_14 : decode prog_1_method_1_code 14 = .ok (.iconst 1, 1) := by decide +kernel
theorem dn_Co_15 : decode prog_1_method_1_code 15 = .ok (.iastore, 1) := by decide +kernel
theorem dn_Co_16 : decode prog_1_method_1_code 16 = .ok (.dup, 1) := by decide +kernel
theorem dn_Co_17 : decode prog_1_method_1_code 17 = .ok (.iconst 2, 1) := by decide +kernel
theorem dn_Co_18 : decode prog_1_method_1_code 18 = .ok (.iconst 0, 1) := by decide +kernel
theorem dn_Co_19 : decode prog_1_method_1_code 19 = .ok (.iastore, 1) := by decide +kernel
theorem dn_Co_20 : decode prog_1_method_1_code 20 = .ok (.dup, 1) := by decide +kernel
theorem dn_Co_21 : decode prog_1_method_1_code 21 = .ok (.iconst 3, 1) := by decide +kernel
theorem dn_Co_22 : decode prog_1_method_1_code 22 = .ok (.iconst 0, 1) := by decide +kernel
theorem dn_Co_23 : decode prog_1_method_1_code 23 = .ok (.iastore, 1) := by decide +kernel
theorem dn_Co_24 : decode prog_1_method_1_code 24 = .ok (.putfield 7, 3) := by decide +kernel
theorem dn_Co_27 : decode prog_1_method_1_code 27 = .ok (.aload_n 0, 1) := by decide +kernel
theorem dn_Co_28 : decode prog_1_method_1_code 28 = .ok (.new 13, 3) := by decide +kernel
theorem dn_Co_31 : decode prog_1_method_1_code 31 = .ok (.dup, 1) := by decide +kernel
theorem dn_Co_32 : decode prog_1_method_1_code 32 = .ok (.invokespecial 15, 3) := by decide +kernel
theorem dn_Co_35 : decode prog_1_method_1_code 35 = .ok (.putfield 16, 3) := by decide +kernel
theorem dn_Co_38 : decode prog_1_method_1_code 38 = .ok (.aload_n 0, 1) := by decide +kernel
theorem dn_Co_39 : decode prog_1_method_1_code 39 = .ok (.new 20, 3) := by decide +kernel
theorem dn_Co_42 : decode prog_1_method_1_code 42 = .ok (.dup, 1) := by decide +kernel
theorem dn_Co_43 : decode prog_1_method_1_code 43 = .ok (.aload_n 0, 1) := by decide +kernel
theorem dn_Co_44 : decode prog_1_method_1_code 44 = .ok (.getfield 16, 3) := by decide +kernel
theorem dn_Co_47 : decode prog_1_method_1_code 47 = .ok (.invokespecial 22, 3) := by decide +kernel
theorem dn_Co_50 : decode prog_1_method_1_code 50 = .ok (.putfield 25, 3) := by decide +kernel
theorem dn_Co_53 : decode prog_1_method_1_code 53 = .ok (.aload_n 0, 1) := by decide +kernel
theorem dn_Co_54 : decode prog_1_method_1_code 54 = .ok (.new 29, 3) := by decide +kernel
theorem dn_Co_57 : decode prog_1_method_1_code 57 = .ok (.dup, 1) := by decide +kernel
theorem dn_Co_58 : decode prog_1_method_1_code 58 = .ok (.aload_n 0, 1) := by decide +kernel
theorem dn_Co_59 : decode prog_1_method_1_code 59 = .ok (.getfield 16, 3) := by decide +kernel
theorem dn_Co_62 : decode prog_1_method_1_code 62 = .ok (.aload_n 0, 1) := by decide +kernel
theorem dn_Co_63 : decode prog_1_method_1_code 63 = .ok (.getfield 25, 3) := by decide +kernel
theorem dn_Co_66 : decode prog_1_method_1_code 66 = .ok (.aload_n 0, 1) := by decide +kernel
theorem dn_Co_67 : decode prog_1_method_1_code 67 = .ok (.getfield 7, 3) := by decide +kernel
theorem dn_Co_70 : decode prog_1_method_1_code 70 = .ok (.invokespecial 31, 3) := by decide +kernel
theorem dn_Co_73 : decode prog_1_method_1_code 73 = .ok (.putfield 34, 3) := by decide +kernel
theorem dn_Co_76 : decode prog_1_method_1_code 76 = .ok (.aload_n 0, 1) := by decide +kernel
theorem dn_Co_77 : decode prog_1_method_1_code 77 = .ok (.new 38, 3) := by decide +kernel
theorem dn_Co_80 : decode prog_1_method_1_code 80 = .ok (.dup, 1) := by decide +kernel
theorem dn_Co_81 : decode prog_1_method_1_code 81 = .ok (.aload_n 0, 1) := by decide +kernel
theorem dn_Co_82 : decode prog_1_method_1_code 82 = .ok (.getfield 16, 3) := by decide +kernel
theorem dn_Co_85 : decode prog_1_method_1_code 85 = .ok (.aload_n 0, 1) := by decide +kernel
theorem dn_Co_86 : decode prog_1_method_1_code 86 = .ok (.getfield 25, 3) := by decide +kernel
theorem dn_Co_89 : decode prog_1_method_1_code 89 = .ok (.aload_n 0, 1) := by decide +kernel
theorem dn_Co_90 : decode prog_1_method_1_code 90 = .ok (.getfield 34, 3) := by decide +kernel
theorem dn_Co_93 : decode prog_1_method_1_code 93 = .ok (.aload_n 0, 1) := by decide +kernel
theorem dn_Co_94 : decode prog_1_method_1_code 94 = .ok (.getfield 7, 3) := by decide +kernel
theorem dn_Co_97 : decode prog_1_method_1_code 97 = .ok (.invokespecial 40, 3) := by decide +kernel
theorem dn_Co_100 : decode prog_1_method_1_code 100 = .ok (.putfield 43, 3) := by decide +kernel
theorem dn_Co_103 : decode prog_1_method_1_code 103 = .ok (.aload_n 0, 1) := by decide +kernel
theorem dn_Co_104 : decode prog_1_method_1_code 104 = .ok (.new 47, 3) := by decide +kernel
theorem dn_Co_107 : decode prog_1_method_1_code 107 = .ok (.dup, 1) := by decide +kernel
theorem dn_Co_108 : decode prog_1_method_1_code 108 = .ok (.aload_n 0, 1) := by decide +kernel
theorem dn_Co_109 : decode prog_1_method_1_code 109 = .ok (.getfield 16, 3) := by decide +kernel
theorem dn_Co_112 : decode prog_1_method_1_code 112 = .ok (.aload_n 0, 1) := by decide +kernel
theorem dn_Co_113 : decode prog_1_method_1_code 113 = .ok (.getfield 34, 3) := by decide +kernel
theorem dn_Co_116 : decode prog_1_method_1_code 116 = .ok (.aload_n 0, 1) := by decide +kernel
theorem dn_Co_117 : decode prog_1_method_1_code 117 = .ok (.getfield 43, 3) := by decide +kernel
theorem dn_Co_120 : decode prog_1_method_1_code 120 = .ok (.aload_n 0, 1) := by decide +kernel
theorem dn_Co_121 : decode prog_1_method_1_code 121 = .ok (.getfield 7, 3) := by decide +kernel
theorem dn_Co_124 : decode prog_1_method_1_code 124 = .ok (.invokespecial 49, 3) := by decide +kernel
theorem dn_Co_127 : decode prog_1_method_1_code 127 = .ok (.putfield 52, 3) := by decide +kernel
theorem dn_Co_130 : decode prog_1_method_1_code 130 = .ok (.return_, 1) := by decide +kernel
def nT_Co_0 : nT := [(0, .inr (6, nvs kY6 6))]
theorem nwm_6_1 : Cond.methodLink kR6 1 objectInit ∈ gTb := gmem 75 (by decide +kernel) (by decide +kernel)
def nT_Co_1 : nT := [(0, .inr (6, [none, none, none, none, none, none])), (1, .inl (0, (4, z0)))]
def nT_Co_2 : nT := [(0, .inr (6, [none, none, none, none, none, none])), (1, .inl (0, (4, nset z0 0 0)))]
def nT_Co_3 : nT := [(0, .inr (6, [none, none, none, none, none, none])), (1, .inl (0, (4, nset (nset z0 0 0) 1 1)))]
def nT_Co_4 : nT := [(0, .inr (6, [none, none, none, none, none, none])), (1, .inl (0, (4, nset (nset (nset z0 0 0) 1 1) 2 0)))]
def nT_Co_5 : nT := [(0, .inr (6, [none, none, none, none, none, none])), (1, .inl (0, (4, nset (nset (nset (nset z0 0 0) 1 1) 2 0) 3 0)))]
theorem nwf_6_7 : Cond.fieldLink kR6 7 kR6 "rules" "[I" ∈ gTb := gmem 305 (by decide +kernel) (by decide +kernel)
def nT_Co_6 : nT := [(0, .inr (6, [nref 1, none, none, none, none, none])), (1, .inl (0, (4, nset (nset (nset (nset z0 0 0) 1 1) 2 0) 3 0)))]
theorem nwc_6_13 : Cond.classLink kR6 13 kR3 ∈ gTb := gmem 78 (by decide +kernel) (by decide +kernel)
theorem nwn_3 : Cond.instantiable kR3 3 ∈ gTb := gmem 79 (by decide +kernel) (by decide +kernel)
theorem nwi_3 : Cond.initialized kR3 ∈ gTb := gmem 62 (by decide +kernel) (by decide +kernel)
def nT_Co_7 : nT := [(0, .inr (6, [nref 1, none, none, none, none, none])), (1, .inl (0, (4, nset (nset (nset (nset z0 0 0) 1 1) 2 0) 3 0))), (2, .inr (3, [none, none, nint 0]))]
theorem nwx_3 : Cond.instanceMethod Yn_Ledger ∈ gTb := gmem 81 (by decide +kernel) (by decide +kernel)
theorem nwd_3 : Cond.code Yn_Ledger prog_5_method_1_code 1 none ∈ gTb := gmem 82 (by decide +kernel) (by decide +kernel)
def nT_Co_8 : nT := [(0, .inr (6, [nref 1, none, none, none, none, none])), (1, .inl (0, (4, nset (nset (nset (nset z0 0 0) 1 1) 2 0) 3 0))), (2, .inr (3, [nref 3, nref 4, nint 0])), (3, .inl (0, (8, z0))), (4, .inl (0, (16, z0)))]
theorem nwf_6_16 : Cond.fieldLink kR6 16 kR6 "ledger" "LCellToObject$Ledger;" ∈ gTb := gmem 306 (by decide +kernel) (by decide +kernel)
def nT_Co_9 : nT := [(0, .inr (6, [nref 1, nref 2, none, none, none, none])), (1, .inl (0, (4, nset (nset (nset (nset z0 0 0) 1 1) 2 0) 3 0))), (2, .inr (3, [nref 3, nref 4, nint 0])), (3, .inl (0, (8, z0))), (4, .inl (0, (16, z0)))]
theorem nwc_6_20 : Cond.classLink kR6 20 kR1 ∈ gTb := gmem 98 (by decide +kernel) (by decide +kernel)
theorem nwn_1 : Cond.instantiable kR1 5 ∈ gTb := gmem 99 (by decide +kernel) (by decide +kernel)
theorem nwi_1 : Cond.initialized kR1 ∈ gTb := gmem 63 (by decide +kernel) (by decide +kernel)
def nT_Co_10 : nT := [(0, .inr (6, [nref 1, nref 2, none, none, none, none])), (1, .inl (0, (4, nset (nset (nset (nset z0 0 0) 1 1) 2 0) 3 0))), (2, .inr (3, [nref 3, nref 4, nint 0])), (3, .inl (0, (8, z0))), (4, .inl (0, (16, z0))), (5, .inr (1, [none, none, none, nint 0, none]))]
theorem nwm_6_22 : Cond.methodLink kR6 22 Yn_Cells ∈ gTb := gmem 100 (by decide +kernel) (by decide +kernel)
theorem nwx_1 : Cond.instanceMethod Yn_Cells ∈ gTb := gmem 101 (by decide +kernel) (by decide +kernel)
theorem nwd_1 : Cond.code Yn_Cells prog_3_method_1_code 2 none ∈ gTb := gmem 102 (by decide +kernel) (by decide +kernel)
def nT_Co_11 : nT := [(0, .inr (6, [nref 1, nref 2, none, none, none, none])), (1, .inl (0, (4, nset (nset (nset (nset z0 0 0) 1 1) 2 0) 3 0))), (2, .inr (3, [nref 3, nref 4, nint 0])), (3, .inl (0, (8, z0))), (4, .inl (0, (16, z0))), (5, .inr (1, [nref 6, nref 7, nref 8, nint 0, nref 2])), (6, .inl (0, (512, z0))), (7, .inl (0, (64, z0))), (8, .inl (0, (4, nset (nset (nset (nset z0 0 (-4)) 1 (-4)) 2 (-4)) 3 (-4))))]
theorem nwf_6_25 : Cond.fieldLink kR6 25 kR6 "cells" "LCellToObject$Cells;" ∈ gTb := gmem 307 (by decide +kernel) (by decide +kernel)
def nT_Co_12 : nT := [(0, .inr (6, [nref 1, nref 2, nref 5, none, none, none])), (1, .inl (0, (4, nset (nset (nset (nset z0 0 0) 1 1) 2 0) 3 0))), (2, .inr (3, [nref 3, nref 4, nint 0])), (3, .inl (0, (8, z0))), (4, .inl (0, (16, z0))), (5, .inr (1, [nref 6, nref 7, nref 8, nint 0, nref 2])), (6, .inl (0, (512, z0))), (7, .inl (0, (64, z0))), (8, .inl (0, (4, nset (nset (nset (nset z0 0 (-4)) 1 (-4)) 2 (-4)) 3 (-4))))]
theorem nwc_6_29 : Cond.classLink kR6 29 kR0 ∈ gTb := gmem 126 (by decide +kernel) (by decide +kernel)
theorem nwn_0 : Cond.instantiable kR0 13 ∈ gTb := gmem 127 (by decide +kernel) (by decide +kernel)
theorem nwi_0 : Cond.initialized kR0 ∈ gTb := gmem 64 (by decide +kernel) (by decide +kernel)
def nT_Co_13 : nT := [(0, .inr (6, [nref 1, nref 2, nref 5, none, none, none])), (1, .inl (0, (4, nset (nset (nset (nset z0 0 0) 1 1) 2 0) 3 0))), (2, .inr (3, [nref 3, nref 4, nint 0])), (3, .inl (0, (8, z0))), (4, .inl (0, (16, z0))), (5, .inr (1, [nref 6, nref 7, nref 8, nint 0, nref 2])), (6, .inl (0, (512, z0))), (7, .inl (0, (64, z0))), (8, .inl (0, (4, nset (nset (nset (nset z0 0 (-4)) 1 (-4)) 2 (-4)) 3 (-4)))), (9, .inr (0, [none, none, none, none, none, none, none, nint 0, nint 0, nint 0, none, none, none]))]
theorem nwm_6_31 : Cond.methodLink kR6 31 Yn_Caches ∈ gTb := gmem 128 (by decide +kernel) (by decide +kernel)
theorem nwx_0 : Cond.instanceMethod Yn_Caches ∈ gTb := gmem 129 (by decide +kernel) (by decide +kernel)
theorem nwd_0 : Cond.code Yn_Caches prog_2_method_1_code 4 none ∈ gTb := gmem 130 (by decide +kernel) (by decide +kernel)
def nT_Co_14 : nT := [(0, .inr (6, [nref 1, nref 2, nref 5, none, none, none])), (1, .inl (0, (4, nset (nset (nset (nset z0 0 0) 1 1) 2 0) 3 0))), (2, .inr (3, [nref 3, nref 4, nint 0])), (3, .inl (0, (8, z0))), (4, .inl (0, (16, z0))), (5, .inr (1, [nref 6, nref 7, nref 8, nint 0, nref 2])), (6, .inl (0, (512, z0))), (7, .inl (0, (64, z0))), (8, .inl (0, (4, nset (nset (nset (nset z0 0 (-4)) 1 (-4)) 2 (-4)) 3 (-4)))), (9, .inr (0, [nref 10, nref 11, nref 12, nref 13, nref 14, nref 15, nref 16, nint 2, nint 2, nint 0, nref 2, nref 5, nref 1])), (10, .inl (0, (128, z0))), (11, .inl (0, (1024, z0))), (12, .inl (0, (128, z0))), (13, .inl (0, (128, z0))), (14, .inl (1, (128, z0))), (15, .inl (1, (128, z0))), (16, .inl (0, (2, z0)))]
theorem nwf_6_34 : Cond.fieldLink kR6 34 kR6 "caches" "LCellToObject$Caches;" ∈ gTb := gmem 308 (by decide +kernel) (by decide +kernel)
def nT_Co_15 : nT := [(0, .inr (6, [nref 1, nref 2, nref 5, nref 9, none, none])), (1, .inl (0, (4, nset (nset (nset (nset z0 0 0) 1 1) 2 0) 3 0))), (2, .inr (3, [nref 3, nref 4, nint 0])), (3, .inl (0, (8, z0))), (4, .inl (0, (16, z0))), (5, .inr (1, [nref 6, nref 7, nref 8, nint 0, nref 2])), (6, .inl (0, (512, z0))), (7, .inl (0, (64, z0))), (8, .inl (0, (4, nset (nset (nset (nset z0 0 (-4)) 1 (-4)) 2 (-4)) 3 (-4)))), (9, .inr (0, [nref 10, nref 11, nref 12, nref 13, nref 14, nref 15, nref 16, nint 2, nint 2, nint 0, nref 2, nref 5, nref 1])), (10, .inl (0, (128, z0))), (11, .inl (0, (1024, z0))), (12, .inl (0, (128, z0))), (13, .inl (0, (128, z0))), (14, .inl (1, (128, z0))), (15, .inl (1, (128, z0))), (16, .inl (0, (2, z0)))]
theorem nwc_6_38 : Cond.classLink kR6 38 kR4 ∈ gTb := gmem 174 (by decide +kernel) (by decide +kernel)
theorem nwn_4 : Cond.instantiable kR4 15 ∈ gTb := gmem 175 (by decide +kernel) (by decide +kernel)
theorem nwi_4 : Cond.initialized kR4 ∈ gTb := gmem 65 (by decide +kernel) (by decide +kernel)
def nT_Co_16 : nT := [(0, .inr (6, [nref 1, nref 2, nref 5, nref 9, none, none])), (1, .inl (0, (4, nset (nset (nset (nset z0 0 0) 1 1) 2 0) 3 0))), (2, .inr (3, [nref 3, nref 4, nint 0])), (3, .inl (0, (8, z0))), (4, .inl (0, (16, z0))), (5, .inr (1, [nref 6, nref 7, nref 8, nint 0, nref 2])), (6, .inl (0, (512, z0))), (7, .inl (0, (64, z0))), (8, .inl (0, (4, nset (nset (nset (nset z0 0 (-4)) 1 (-4)) 2 (-4)) 3 (-4)))), (9, .inr (0, [nref 10, nref 11, nref 12, nref 13, nref 14, nref 15, nref 16, nint 2, nint 2, nint 0, nref 2, nref 5, nref 1])), (10, .inl (0, (128, z0))), (11, .inl (0, (1024, z0))), (12, .inl (0, (128, z0))), (13, .inl (0, (128, z0))), (14, .inl (1, (128, z0))), (15, .inl (1, (128, z0))), (16, .inl (0, (2, z0))), (17, .inr (4, [nint 0, none, none, none, nint 0, nint 0, none, none, none, none, none, none, none, none, none]))]
theorem nwm_6_40 : Cond.methodLink kR6 40 Yn_Memory ∈ gTb := gmem 176 (by decide +kernel) (by decide +kernel)
theorem nwx_4 : Cond.instanceMethod Yn_Memory ∈ gTb := gmem 177 (by decide +kernel) (by decide +kernel)
theorem nwd_4 : Cond.code Yn_Memory prog_6_method_1_code 6 none ∈ gTb := gmem 178 (by decide +kernel) (by decide +kernel)
def nT_Co_17 : nT := [(0, .inr (6, [nref 1, nref 2, nref 5, nref 9, none, none])), (1, .inl (0, (4, nset (nset (nset (nset z0 0 0) 1 1) 2 0) 3 0))), (2, .inr (3, [nref 3, nref 4, nint 0])), (3, .inl (0, (8, z0))), (4, .inl (0, (16, z0))), (5, .inr (1, [nref 6, nref 7, nref 8, nint 0, nref 2])), (6, .inl (0, (512, z0))), (7, .inl (0, (64, z0))), (8, .inl (0, (4, nset (nset (nset (nset z0 0 (-4)) 1 (-4)) 2 (-4)) 3 (-4)))), (9, .inr (0, [nref 10, nref 11, nref 12, nref 13, nref 14, nref 15, nref 16, nint 2, nint 2, nint 0, nref 2, nref 5, nref 1])), (10, .inl (0, (128, z0))), (11, .inl (0, (1024, z0))), (12, .inl (0, (128, z0))), (13, .inl (0, (128, z0))), (14, .inl (1, (128, z0))), (15, .inl (1, (128, z0))), (16, .inl (0, (2, z0))), (17, .inr (4, [nint 4, nref 18, nref 19, nref 20, nint 0, nint 0, nref 23, nref 24, nref 25, nref 26, nref 27, nref 2, nref 5, nref 9, nref 1])), (18, .inl (0, (32, fl (-4) 32))), (19, .inl (1, (32, z0))), (20, .inr (5, [nref 21, nint 0, nint 0, nref 22])), (21, .inl (0, (100, z0))), (22, .inl (0, (32, z0))), (23, .inl (0, (16, fl (-4) 16))), (24, .inl (0, (16, z0))), (25, .inl (0, (16, z0))), (26, .inl (1, (16, z0))), (27, .inl (0, (1024, z0)))]
theorem nwf_6_43 : Cond.fieldLink kR6 43 kR6 "memory" "LCellToObject$Memory;" ∈ gTb := gmem 309 (by decide +kernel) (by decide +kernel)
def nT_Co_18 : nT := [(0, .inr (6, [nref 1, nref 2, nref 5, nref 9, nref 17, none])), (1, .inl (0, (4, nset (nset (nset (nset z0 0 0) 1 1) 2 0) 3 0))), (2, .inr (3, [nref 3, nref 4, nint 0])), (3, .inl (0, (8, z0))), (4, .inl (0, (16, z0))), (5, .inr (1, [nref 6, nref 7, nref 8, nint 0, nref 2])), (6, .inl (0, (512, z0))), (7, .inl (0, (64, z0))), (8, .inl (0, (4, nset (nset (nset (nset z0 0 (-4)) 1 (-4)) 2 (-4)) 3 (-4)))), (9, .inr (0, [nref 10, nref 11, nref 12, nref 13, nref 14, nref 15, nref 16, nint 2, nint 2, nint 0, nref 2, nref 5, nref 1])), (10, .inl (0, (128, z0))), (11, .inl (0, (1024, z0))), (12, .inl (0, (128, z0))), (13, .inl (0, (128, z0))), (14, .inl (1, (128, z0))), (15, .inl (1, (128, z0))), (16, .inl (0, (2, z0))), (17, .inr (4, [nint 4, nref 18, nref 19, nref 20, nint 0, nint 0, nref 23, nref 24, nref 25, nref 26, nref 27, nref 2, nref 5, nref 9, nref 1])), (18, .inl (0, (32, fl (-4) 32))), (19, .inl (1, (32, z0))), (20, .inr (5, [nref 21, nint 0, nint 0, nref 22])), (21, .inl (0, (100, z0))), (22, .inl (0, (32, z0))), (23, .inl (0, (16, fl (-4) 16))), (24, .inl (0, (16, z0))), (25, .inl (0, (16, z0))), (26, .inl (1, (16, z0))), (27, .inl (0, (1024, z0)))]
theorem nwc_6_47 : Cond.classLink kR6 47 kR2 ∈ gTb := gmem 249 (by decide +kernel) (by decide +kernel)
theorem nwn_2 : Cond.instantiable kR2 14 ∈ gTb := gmem 250 (by decide +kernel) (by decide +kernel)
theorem nwi_2 : Cond.initialized kR2 ∈ gTb := gmem 67 (by decide +kernel) (by decide +kernel)
def nT_Co_19 : nT := [(0, .inr (6, [nref 1, nref 2, nref 5, nref 9, nref 17, none])), (1, .inl (0, (4, nset (nset (nset (nset z0 0 0) 1 1) 2 0) 3 0))), (2, .inr (3, [nref 3, nref 4, nint 0])), (3, .inl (0, (8, z0))), (4, .inl (0, (16, z0))), (5, .inr (1, [nref 6, nref 7, nref 8, nint 0, nref 2])), (6, .inl (0, (512, z0))), (7, .inl (0, (64, z0))), (8, .inl (0, (4, nset (nset (nset (nset z0 0 (-4)) 1 (-4)) 2 (-4)) 3 (-4)))), (9, .inr (0, [nref 10, nref 11, nref 12, nref 13, nref 14, nref 15, nref 16, nint 2, nint 2, nint 0, nref 2, nref 5, nref 1])), (10, .inl (0, (128, z0))), (11, .inl (0, (1024, z0))), (12, .inl (0, (128, z0))), (13, .inl (0, (128, z0))), (14, .inl (1, (128, z0))), (15, .inl (1, (128, z0))), (16, .inl (0, (2, z0))), (17, .inr (4, [nint 4, nref 18, nref 19, nref 20, nint 0, nint 0, nref 23, nref 24, nref 25, nref 26, nref 27, nref 2, nref 5, nref 9, nref 1])), (18, .inl (0, (32, fl (-4) 32))), (19, .inl (1, (32, z0))), (20, .inr (5, [nref 21, nint 0, nint 0, nref 22])), (21, .inl (0, (100, z0))), (22, .inl (0, (32, z0))), (23, .inl (0, (16, fl (-4) 16))), (24, .inl (0, (16, z0))), (25, .inl (0, (16, z0))), (26, .inl (1, (16, z0))), (27, .inl (0, (1024, z0))), (28, .inr (2, [none, none, none, none, none, none, none, none, none, nint 0, none, none, none, none]))]
theorem nwm_6_49 : Cond.methodLink kR6 49 Yn_Heap ∈ gTb := gmem 251 (by decide +kernel) (by decide +kernel)
theorem nwx_2 : Cond.instanceMethod Yn_Heap ∈ gTb := gmem 252 (by decide +kernel) (by decide +kernel)
theorem nwd_2 : Cond.code Yn_Heap prog_4_method_1_code 6 none ∈ gTb := gmem 253 (by decide +kernel) (by decide +kernel)
def nT_Co_20 : nT := [(0, .inr (6, [nref 1, nref 2, nref 5, nref 9, nref 17, none])), (1, .inl (0, (4, nset (nset (nset (nset z0 0 0) 1 1) 2 0) 3 0))), (2, .inr (3, [nref 3, nref 4, nint 0])), (3, .inl (0, (8, z0))), (4, .inl (0, (16, z0))), (5, .inr (1, [nref 6, nref 7, nref 8, nint 0, nref 2])), (6, .inl (0, (512, z0))), (7, .inl (0, (64, z0))), (8, .inl (0, (4, nset (nset (nset (nset z0 0 (-4)) 1 (-4)) 2 (-4)) 3 (-4)))), (9, .inr (0, [nref 10, nref 11, nref 12, nref 13, nref 14, nref 15, nref 16, nint 2, nint 2, nint 0, nref 2, nref 5, nref 1])), (10, .inl (0, (128, z0))), (11, .inl (0, (1024, z0))), (12, .inl (0, (128, z0))), (13, .inl (0, (128, z0))), (14, .inl (1, (128, z0))), (15, .inl (1, (128, z0))), (16, .inl (0, (2, z0))), (17, .inr (4, [nint 4, nref 18, nref 19, nref 20, nint 0, nint 0, nref 23, nref 24, nref 25, nref 26, nref 27, nref 2, nref 5, nref 9, nref 1])), (18, .inl (0, (32, fl (-4) 32))), (19, .inl (1, (32, z0))), (20, .inr (5, [nref 21, nint 0, nint 0, nref 22])), (21, .inl (0, (100, z0))), (22, .inl (0, (32, z0))), (23, .inl (0, (16, fl (-4) 16))), (24, .inl (0, (16, z0))), (25, .inl (0, (16, z0))), (26, .inl (1, (16, z0))), (27, .inl (0, (1024, z0))), (28, .inr (2, [nref 29, nref 30, nref 31, nref 32, nref 33, nref 34, nref 35, nref 36, nref 37, nint 0, nref 2, nref 9, nref 17, nref 1])), (29, .inl (0, (40, fl (-4) 40))), (30, .inl (0, (40, z0))), (31, .inl (0, (40, z0))), (32, .inl (1, (40, z0))), (33, .inl (0, (40, z0))), (34, .inl (0, (8, fl (-1) 8))), (35, .inl (0, (4, fl (-1) 4))), (36, .inl (0, (40, z0))), (37, .inl (1, (40, z0)))]
theorem nwf_6_52 : Cond.fieldLink kR6 52 kR6 "heap" "LCellToObject$Heap;" ∈ gTb := gmem 310 (by decide +kernel) (by decide +kernel)
def nT_Co_21 : nT := [(0, .inr (6, [nref 1, nref 2, nref 5, nref 9, nref 17, nref 28])), (1, .inl (0, (4, nset (nset (nset (nset z0 0 0) 1 1) 2 0) 3 0))), (2, .inr (3, [nref 3, nref 4, nint 0])), (3, .inl (0, (8, z0))), (4, .inl (0, (16, z0))), (5, .inr (1, [nref 6, nref 7, nref 8, nint 0, nref 2])), (6, .inl (0, (512, z0))), (7, .inl (0, (64, z0))), (8, .inl (0, (4, nset (nset (nset (nset z0 0 (-4)) 1 (-4)) 2 (-4)) 3 (-4)))), (9, .inr (0, [nref 10, nref 11, nref 12, nref 13, nref 14, nref 15, nref 16, nint 2, nint 2, nint 0, nref 2, nref 5, nref 1])), (10, .inl (0, (128, z0))), (11, .inl (0, (1024, z0))), (12, .inl (0, (128, z0))), (13, .inl (0, (128, z0))), (14, .inl (1, (128, z0))), (15, .inl (1, (128, z0))), (16, .inl (0, (2, z0))), (17, .inr (4, [nint 4, nref 18, nref 19, nref 20, nint 0, nint 0, nref 23, nref 24, nref 25, nref 26, nref 27, nref 2, nref 5, nref 9, nref 1])), (18, .inl (0, (32, fl (-4) 32))), (19, .inl (1, (32, z0))), (20, .inr (5, [nref 21, nint 0, nint 0, nref 22])), (21, .inl (0, (100, z0))), (22, .inl (0, (32, z0))), (23, .inl (0, (16, fl (-4) 16))), (24, .inl (0, (16, z0))), (25, .inl (0, (16, z0))), (26, .inl (1, (16, z0))), (27, .inl (0, (1024, z0))), (28, .inr (2, [nref 29, nref 30, nref 31, nref 32, nref 33, nref 34, nref 35, nref 36, nref 37, nint 0, nref 2, nref 9, nref 17, nref 1])), (29, .inl (0, (40, fl (-4) 40))), (30, .inl (0, (40, z0))), (31, .inl (0, (40, z0))), (32, .inl (1, (40, z0))), (33, .inl (0, (40, z0))), (34, .inl (0, (8, fl (-1) 8))), (35, .inl (0, (4, fl (-1) 4))), (36, .inl (0, (40, z0))), (37, .inl (1, (40, z0)))]
set_option maxRecDepth 20000 in
set_option maxHeartbeats 4000000 in
theorem cn_Co : nCt Yn_Class prog_1_method_1_code 1 3 57 37 3904 1 [nref 0] [(0, .inr (6, nvs kY6 6))] nT_Co_21 := n_entry (by decide) rfl rfl (by decide) fun X C => by
  show NN 1 X 0 [(0, nref 0)] [] nT_Co_0 0 0
  refine n_aload_n C dn_Co_0 rfl 0 rfl ?_
  refine n_objInit C nwm_6_1 nwo_1 nwo_2 (by decide) (by decide) dn_Co_1 ?_
  refine n_aload_n C dn_Co_4 rfl 0 rfl ?_
  refine n_iconst C dn_Co_5 ?_
  refine n_newi C (n := 4) (id := 1) (T' := nT_Co_1) nwa_int (by decide) rfl rfl (by decide) (k' := 1) (j' := 4) rfl rfl (by decide) (by decide) rfl dn_Co_6 ?_
  refine n_dup C rfl dn_Co_8 ?_
  refine n_iconst C dn_Co_9 ?_
  refine n_iconst C dn_Co_10 ?_
  refine n_iast C (pos := 1) (T' := nT_Co_2) rfl (by decide) ⟨by decide, by decide⟩ rfl dn_Co_11 ?_
  refine n_dup C rfl dn_Co_12 ?_
  refine n_iconst C dn_Co_13 ?_
  refine n_iconst C dn_Co_14 ?_
  refine n_iast C (pos := 1) (T' := nT_Co_3) rfl (by decide) ⟨by decide, by decide⟩ rfl dn_Co_15 ?_
  refine n_dup C rfl dn_Co_16 ?_
  refine n_iconst C dn_Co_17 ?_
  refine n_iconst C dn_Co_18 ?_
  refine n_iast C (pos := 1) (T' := nT_Co_4) rfl (by decide) ⟨by decide, by decide⟩ rfl dn_Co_19 ?_
  refine n_dup C rfl dn_Co_20 ?_
  refine n_iconst C dn_Co_21 ?_
  refine n_iconst C dn_Co_22 ?_
  refine n_iast C (pos := 1) (T' := nT_Co_5) rfl (by decide) ⟨by decide, by decide⟩ rfl dn_Co_23 ?_
  refine n_put C (pos := 0) (f := 0) (ci := 6) (id := 0) (T' := nT_Co_6) (d := "[I") (fin := true) rfl kI6 kO6 kN6 rfl (by decide) rfl rfl nwf_6_7 (ty := kY6 0) (by decide +kernel) (fun _ => rfl) (fun _ => rfl) (by decide) dn_Co_24 ?_
  refine n_aload_n C dn_Co_27 rfl 0 rfl ?_
  refine n_new C (id := 2) (ci := 3) (cn := kR3) (T' := nT_Co_7) rfl kI3 kO3 (by decide +kernel) nwc_6_13 nwn_3 nwi_3 (by decide) rfl (k' := 2) (j' := 7) rfl rfl (by decide) (by decide) rfl rfl dn_Co_28 ?_
  refine n_dup C rfl dn_Co_31 ?_
  refine n_init C (id := 2) (as := []) (st := [nref 2, nref 0]) (Tr := nT_Co_6) (T' := nT_Co_8) cn_Le rfl rfl rfl (Or.inr ⟨"CellToObject", C.2.2.2.2.2.2.2.2.2.2.2.1.1⟩) nwx_3 nwi_3 nwd_3 ⟨by decide, by decide, by decide +kernel⟩ rfl (by decide) (by decide) (by decide) rfl (k' := 4) (j' := 31) rfl rfl (by decide) (by decide) dn_Co_32 ?_
  refine n_put C (pos := 0) (f := 1) (ci := 6) (id := 0) (T' := nT_Co_9) (d := "LCellToObject$Ledger;") (fin := true) rfl kI6 kO6 kN6 rfl (by decide) rfl rfl nwf_6_16 (ty := kY6 1) (by decide +kernel) (fun _ => rfl) (fun _ => rfl) (by decide) dn_Co_35 ?_
  refine n_aload_n C dn_Co_38 rfl 0 rfl ?_
  refine n_new C (id := 5) (ci := 1) (cn := kR1) (T' := nT_Co_10) rfl kI1 kO1 (by decide +kernel) nwc_6_20 nwn_1 nwi_1 (by decide) rfl (k' := 5) (j' := 36) rfl rfl (by decide) (by decide) rfl rfl dn_Co_39 ?_
  refine n_dup C rfl dn_Co_42 ?_
  refine n_aload_n C dn_Co_43 rfl 0 rfl ?_
  refine n_get C (pos := 0) (f := 1) (ci := 6) (cn := kR6) (d := "LCellToObject$Ledger;") rfl kI6 rfl (by decide) (v := nref 2) rfl rfl nwf_6_16 dn_Co_44 ?_
  refine n_init C (id := 5) (as := [nref 2]) (st := [nref 5, nref 0]) (Tr := nT_Co_9) (T' := nT_Co_11) cn_Ce rfl rfl rfl (Or.inl nwm_6_22) nwx_1 nwi_1 nwd_1 ⟨by decide, by decide, by decide +kernel⟩ rfl (by decide) (by decide) (by decide) rfl (k' := 8) (j' := 616) rfl rfl (by decide) (by decide) dn_Co_47 ?_
  refine n_put C (pos := 0) (f := 2) (ci := 6) (id := 0) (T' := nT_Co_12) (d := "LCellToObject$Cells;") (fin := true) rfl kI6 kO6 kN6 rfl (by decide) rfl rfl nwf_6_25 (ty := kY6 2) (by decide +kernel) (fun _ => rfl) (fun _ => rfl) (by decide) dn_Co_50 ?_
  refine n_aload_n C dn_Co_53 rfl 0 rfl ?_
  refine n_new C (id := 9) (ci := 0) (cn := kR0) (T' := nT_Co_13) rfl kI0 kO0 (by decide +kernel) nwc_6_29 nwn_0 nwi_0 (by decide) rfl (k' := 9) (j' := 629) rfl rfl (by decide) (by decide) rfl rfl dn_Co_54 ?_
  refine n_dup C rfl dn_Co_57 ?_
  refine n_aload_n C dn_Co_58 rfl 0 rfl ?_
  refine n_get C (pos := 0) (f := 1) (ci := 6) (cn := kR6) (d := "LCellToObject$Ledger;") rfl kI6 rfl (by decide) (v := nref 2) rfl rfl nwf_6_16 dn_Co_59 ?_
  refine n_aload_n C dn_Co_62 rfl 0 rfl ?_
  refine n_get C (pos := 0) (f := 2) (ci := 6) (cn := kR6) (d := "LCellToObject$Cells;") rfl kI6 rfl (by decide) (v := nref 5) rfl rfl nwf_6_25 dn_Co_63 ?_
  refine n_aload_n C dn_Co_66 rfl 0 rfl ?_
  refine n_get C (pos := 0) (f := 0) (ci := 6) (cn := kR6) (d := "[I") rfl kI6 rfl (by decide) (v := nref 1) rfl rfl nwf_6_7 dn_Co_67 ?_
  refine n_init C (id := 9) (as := [nref 2, nref 5, nref 1]) (st := [nref 9, nref 0]) (Tr := nT_Co_12) (T' := nT_Co_14) cn_Ca rfl rfl rfl (Or.inl nwm_6_31) nwx_0 nwi_0 nwd_0 ⟨by decide, by decide, by decide +kernel⟩ rfl (by decide) (by decide) (by decide) rfl (k' := 16) (j' := 2295) rfl rfl (by decide) (by decide) dn_Co_70 ?_
  refine n_put C (pos := 0) (f := 3) (ci := 6) (id := 0) (T' := nT_Co_15) (d := "LCellToObject$Caches;") (fin := true) rfl kI6 kO6 kN6 rfl (by decide) rfl rfl nwf_6_34 (ty := kY6 3) (by decide +kernel) (fun _ => rfl) (fun _ => rfl) (by decide) dn_Co_73 ?_
  refine n_aload_n C dn_Co_76 rfl 0 rfl ?_
  refine n_new C (id := 17) (ci := 4) (cn := kR4) (T' := nT_Co_16) rfl kI4 kO4 (by decide +kernel) nwc_6_38 nwn_4 nwi_4 (by decide) rfl (k' := 17) (j' := 2310) rfl rfl (by decide) (by decide) rfl rfl dn_Co_77 ?_
  refine n_dup C rfl dn_Co_80 ?_
  refine n_aload_n C dn_Co_81 rfl 0 rfl ?_
  refine n_get C (pos := 0) (f := 1) (ci := 6) (cn := kR6) (d := "LCellToObject$Ledger;") rfl kI6 rfl (by decide) (v := nref 2) rfl rfl nwf_6_16 dn_Co_82 ?_
  refine n_aload_n C dn_Co_85 rfl 0 rfl ?_
  refine n_get C (pos := 0) (f := 2) (ci := 6) (cn := kR6) (d := "LCellToObject$Cells;") rfl kI6 rfl (by decide) (v := nref 5) rfl rfl nwf_6_25 dn_Co_86 ?_
  refine n_aload_n C dn_Co_89 rfl 0 rfl ?_
  refine n_get C (pos := 0) (f := 3) (ci := 6) (cn := kR6) (d := "LCellToObject$Caches;") rfl kI6 rfl (by decide) (v := nref 9) rfl rfl nwf_6_34 dn_Co_90 ?_
  refine n_aload_n C dn_Co_93 rfl 0 rfl ?_
  refine n_get C (pos := 0) (f := 0) (ci := 6) (cn := kR6) (d := "[I") rfl kI6 rfl (by decide) (v := nref 1) rfl rfl nwf_6_7 dn_Co_94 ?_
  refine n_init C (id := 17) (as := [nref 2, nref 5, nref 9, nref 1]) (st := [nref 17, nref 0]) (Tr := nT_Co_15) (T' := nT_Co_17) cn_Me rfl rfl rfl (Or.inl nwm_6_40) nwx_4 nwi_4 nwd_4 ⟨by decide, by decide, by decide +kernel⟩ rfl (by decide) (by decide) (by decide) rfl (k' := 27) (j' := 3598) rfl rfl (by decide) (by decide) dn_Co_97 ?_
  refine n_put C (pos := 0) (f := 4) (ci := 6) (id := 0) (T' := nT_Co_18) (d := "LCellToObject$Memory;") (fin := true) rfl kI6 kO6 kN6 rfl (by decide) rfl rfl nwf_6_43 (ty := kY6 4) (by decide +kernel) (fun _ => rfl) (fun _ => rfl) (by decide) dn_Co_100 ?_
  refine n_aload_n C dn_Co_103 rfl 0 rfl ?_
  refine n_new C (id := 28) (ci := 2) (cn := kR2) (T' := nT_Co_19) rfl kI2 kO2 (by decide +kernel) nwc_6_47 nwn_2 nwi_2 (by decide) rfl (k' := 28) (j' := 3612) rfl rfl (by decide) (by decide) rfl rfl dn_Co_104 ?_
  refine n_dup C rfl dn_Co_107 ?_
  refine n_aload_n C dn_Co_108 rfl 0 rfl ?_
  refine n_get C (pos := 0) (f := 1) (ci := 6) (cn := kR6) (d := "LCellToObject$Ledger;") rfl kI6 rfl (by decide) (v := nref 2) rfl rfl nwf_6_16 dn_Co_109 ?_
  refine n_aload_n C dn_Co_112 rfl 0 rfl ?_
  refine n_get C (pos := 0) (f := 3) (ci := 6) (cn := kR6) (d := "LCellToObject$Caches;") rfl kI6 rfl (by decide) (v := nref 9) rfl rfl nwf_6_34 dn_Co_113 ?_
  refine n_aload_n C dn_Co_116 rfl 0 rfl ?_
  refine n_get C (pos := 0) (f := 4) (ci := 6) (cn := kR6) (d := "LCellToObject$Memory;") rfl kI6 rfl (by decide) (v := nref 17) rfl rfl nwf_6_43 dn_Co_117 ?_
  refine n_aload_n C dn_Co_120 rfl 0 rfl ?_
  refine n_get C (pos := 0) (f := 0) (ci := 6) (cn := kR6) (d := "[I") rfl kI6 rfl (by decide) (v := nref 1) rfl rfl nwf_6_7 dn_Co_121 ?_
  refine n_init C (id := 28) (as := [nref 2, nref 9, nref 17, nref 1]) (st := [nref 28, nref 0]) (Tr := nT_Co_18) (T' := nT_Co_20) cn_He rfl rfl rfl (Or.inl nwm_6_49) nwx_2 nwi_2 nwd_2 ⟨by decide, by decide, by decide +kernel⟩ rfl (by decide) (by decide) (by decide) rfl (k' := 37) (j' := 3904) rfl rfl (by decide) (by decide) dn_Co_124 ?_
  refine n_put C (pos := 0) (f := 5) (ci := 6) (id := 0) (T' := nT_Co_21) (d := "LCellToObject$Heap;") (fin := true) rfl kI6 kO6 kN6 rfl (by decide) rfl rfl nwf_6_52 (ty := kY6 5) (by decide +kernel) (fun _ => rfl) (fun _ => rfl) (by decide) dn_Co_127 ?_
  exact n_vret C dn_Co_130
