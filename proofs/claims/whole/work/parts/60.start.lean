/-! the law from its entry: statics, the two objects, the loop -/
theorem eqt {t : Term} {z : Int32} {args : Array Value} {s : State} (h : (Cond.eq t (.int z)).before args s = true) : t.eval args s none [] s = some (.int z) := by
  cases hv : t.eval args s none [] s with
  | none => simp [Cond.before, Cond.holds, Cond.value, hv] at h
  | some w =>
    have hz : (Term.int z).eval args s none [] s = some (.int z) := rfl
    simp only [Cond.before, Cond.holds, Cond.value, hv, hz] at h
    cases w <;> simp_all
theorem xstat {t : Term} {args : Array Value} {s : State} {n : Nat} {f : Int → Int} (harr : (Cond.arrayOf t .int).before args s = true) (hlen : (Cond.eq (.length t) (.int (Int32.ofInt (n : Int)))).before args s = true) (hel : ∀ i : Nat, i < n → (Cond.eq (.elem t (.int (Int32.ofInt (i : Int)))) (.int (Int32.ofInt (f (i : Int))))).before args s = true) (hn : n < 100) :
    ∃ a, t.eval args s none [] s = some (.ref a) ∧ va_X a n (fun j => Int32.ofInt (f (j : Int))) s s.heap ∧ a < s.heap.size := by
  have hv := eqt hlen
  obtain ⟨b, cell, ht, hcA, -⟩ := Term.length_spec hv
  have hg : g32 (n : Int) := ⟨by omega, by omega⟩
  have hsz : cell.slots.size = n := by
    simp only [Term.eval, ht, hcA, Option.bind_eq_bind, Option.bind_some] at hv
    by_cases hlt : cell.slots.size < 2147483648
    · rw [if_pos hlt] at hv
      have e : Int32.ofNat cell.slots.size = Int32.ofInt (n : Int) := by
        have := Option.some.inj hv
        exact Value.int.inj this
      have e2 : (Int32.ofNat cell.slots.size).toInt = (n : Int) := by rw [e, gti hg]
      rw [Int32.toInt_ofNat_small hlt] at e2
      omega
    · rw [if_neg hlt] at hv; cases hv
  obtain ⟨hcell, hkn, -, -⟩ := State.arrayAt?_spec hcA
  refine ⟨b, ht, ⟨cell, hcell, (Cond.arrayOf_spec harr ht hcell).1, hkn, hsz, fun j hj => ?_⟩, (Array.getElem?_eq_some_iff.mp hcell).1⟩
  obtain ⟨a, z, cell2, h1, h2, h3, -, h5⟩ := Term.elem_spec (eqt (hel j hj))
  have ea : a = b := by
    have := h1.symm.trans ht
    exact Value.ref.inj (Option.some.inj this)
  subst ea
  have ec : cell2 = cell := Option.some.inj (h3.symm.trans hcA)
  subst ec
  have ez : Int32.ofInt (j : Int) = z := Value.int.inj (Option.some.inj h2)
  subst ez
  rw [gin ⟨by omega, by omega⟩, Int.toNat_natCast] at h5
  exact h5
theorem nvs_nc {ty0 : Nat → FieldType} {N : Nat} (ad ad' : Nat → Nat) : (nvs ty0 N).map (nc ad) = (nvs ty0 N).map (nc ad') := by
  unfold nvs
  rw [List.map_map, List.map_map]
  refine List.map_congr_left fun i _ => ?_
  show nc ad (nd0 (ty0 i)) = nc ad' (nd0 (ty0 i))
  cases ty0 i <;> rfl
theorem l_make {p : Program} {l : Launch} {e : Env} {s : State} {m : MethodId} {args : Array Value} {below : List Frame} {meth : Method} {c : Code} {Q : State → Prop} (hx : p.tables.exec = Jvm.exec) (hb : c.code = code) (hml : c.maxLocals = 4) (hown : s.vm.findClass R_law = some m.cls) (htg : ∀ w ∈ gTb, w.before args s = true) {D : va_G} {cy : gY} (hK : va_K D gcl (gtys cy) s) (hNx : nNx s) {A : Nat → Prop} (hA : ∀ q, s.heap.size ≤ q → A q)
    {ws : va_W} {H : Heap} {locs : List Loc} {ls : Array Slot} {Lc : List (Nat × Value)} {k j pc : Nat} (hP : va_P D gcl ws H) (hD : va_D A ws) (hS : va_S A s.heap H locs) (hl : lv_has ls 4 Lc) {ci ix1 ix2 N mL fr' lo' mc' ms' : Nat} {Tt : u_T} {ty0 : Nat → FieldType} {y : MethodName} {bytes : ByteArray} {T1 : nT} (hM : nCt y bytes mL fr' lo' mc' ms' 1 [nref 0] [(0, .inr (ci, nvs ty0 N))] T1)
    (hc : gcl[ci]? = some (y.cls, Tt, N)) (hw : ∀ w ∈ u_ws y.cls Tt N, w ∈ gTb) (hty : ∀ a, a < N → parseFieldDescriptor (Tt a).2.2.1 = some (ty0 a)) (hok : ∀ a, a < N → nok (ty0 a) = true) (w1 : Cond.classLink R_law ix1 y.cls ∈ gTb) (w2 : Cond.instantiable y.cls N ∈ gTb) (w3 : Cond.initialized y.cls ∈ gTb) (w4 : Cond.methodLink R_law ix2 y ∈ gTb) (w5 : Cond.instanceMethod y ∈ gTb) (w6 : Cond.code y bytes mL none ∈ gTb)
    (hy : y.cls ≠ "java/lang/invoke/MethodHandle" ∧ y.cls ≠ "java/lang/invoke/VarHandle" ∧ (parseMethodDescriptor y.desc).map (fun d => d.parameters.length) = some 0) (hnm : y.name = "<init>") (hR : fr' + 1 ≤ 14 ∧ 8 + (mL + 11) + lo' ≤ 580) (hk1 : k + 1 + mc' ≤ 72) (hj1 : j + N + ms' ≤ 6979) (d1 : decode code pc = .ok (.new ix1, 3)) (d2 : decode code (pc + 3) = .ok (.dup, 1)) (d3 : decode code (pc + 4) = .ok (.invokespecial ix2, 3)) (ad0 : Nat → Nat)
    (kk : ∀ (u : Nat → Nat) (H1 : Heap) (locs1 : List Loc), (∀ q, 1000 ≤ q → u q = ad0 q) → va_P D gcl (ws ++ nW cy u T1) H1 → va_D A (ws ++ nW cy u T1) → va_S A s.heap H1 locs1 → W p l e room_1 s m args below meth c H1 locs1 (k + 1 + mc') (j + N + ms') Q (F0 m (pc + 7) ls [.ref (u 0)])) :
    W p l e room_1 s m args below meth c H locs k j Q (F0 m pc ls []) := by
  refine va_new (ci := ci) (fs := (nvs ty0 N).map (nc ad0)) (C := y.cls) (T := Tt) (N := N) hx hb htg hw ty0 hty hown (htg _ w1) (htg _ w2) (htg _ w3) hK hP hD hS hA hc (fun a ha => ?_) (Nat.le_trans (Nat.le_add_right _ mc') hk1) (Nat.le_trans (Nat.le_add_right _ ms') hj1) d1 fun q H2 hP2 hD2 hS2 => ?_
  · rw [nd0_ok ad0 (hok a ha)]
    unfold vp_V nvs
    rw [List.getD_eq_getElem?_getD, List.getElem?_map, List.getElem?_map, List.getElem?_range ha]
    rfl
  refine lv_dup hx hb d2 rfl ?_
  have hq : nad ad0 0 q 0 = q := nad_at
  have eN : nW cy (nad ad0 0 q) [(0, .inr (ci, nvs ty0 N))] = [(q, .inr (ci, (nvs ty0 N).map (nc ad0)))] := by
    show [(nad ad0 0 q 0, (Sum.inr (ci, (nvs ty0 N).map (nc (nad ad0 0 q))) : va_E))] = _
    rw [hq, nvs_nc (nad ad0 0 q) ad0]
  rw [← eN] at hP2 hD2
  have hF : ∀ z, va_A (nW cy (nad ad0 0 q) [(0, .inr (ci, nvs ty0 N))]) H2.size z → A z := by
    intro z hz
    rcases hz with ⟨i, e, h1⟩ | h1
    · exact hD2.2 (ws.length + i) (z, e) (by rw [List.getElem?_append_right (by omega), Nat.add_sub_cancel_left]; exact h1)
    · exact hA z (Nat.le_trans hS2.1 h1)
  have hPc : va_P D gcl (nW cy (nad ad0 0 q) [(0, .inr (ci, nvs ty0 N))]) H2 := fun i z hz => hP2 (ws.length + i) z (by rw [List.getElem?_append_right (by omega), Nat.add_sub_cancel_left]; exact hz)
  have hDc : va_D (fun _ => True) (nW cy (nad ad0 0 q) [(0, .inr (ci, nvs ty0 N))]) := by
    refine ⟨fun a b p q hp hq _ => ?_, fun _ _ _ => trivial⟩
    have := (List.getElem?_eq_some_iff.mp hp).1
    have := (List.getElem?_eq_some_iff.mp hq).1
    simp [nW] at *
    omega
  have pre : PreS s H2 (va_Pc ([nref 0].map (nc (nad ad0 0 q))) (nPre [(0, .inr (ci, nvs ty0 N))] D cy (nad ad0 0 q) H2.size)) (.ref q :: []) :=
    ⟨nblind, fun U hU hW => ⟨by show _ = #[Value.ref (nad ad0 0 q 0)]; rw [hq], by rw [hU], by rw [hU]; exact hPc, va_K.moved hW.alike hK, hDc, hNx.1.warmM hW, hNx.2.warmM hW⟩⟩
  have run : va_Run p l e room_1 s m args below meth c H2 locs (k + 1) (j + N) mc' ms' (F0 m (pc + 4) ls [.ref q, .ref q]) [.ref q] (nPost 1 T1 D cy (nad ad0 0 q) (va_A (nW cy (nad ad0 0 q) [(0, .inr (ci, nvs ty0 N))]) H2.size) #[Value.ref q]) (va_A (nW cy (nad ad0 0 q) [(0, .inr (ci, nvs ty0 N))]) H2.size) :=
    va_runI (As := []) (rest := [.ref q]) ⟨hx, hb, hml, hown, htg⟩ (hM l D cy (nad ad0 0 q) H2.size) ⟨callB_of 0 htg (ggoodW w6) rfl rfl rfl (htg _ w3) (htg _ w4) hy ⟨hR.1, hR.2⟩, hnm, htg _ w5⟩ pre rfl rfl (by show ls.size = 4; exact hl.1) rfl (lv_room (Nat.le_of_ble_eq_true rfl)) d3 ⟨hk1, hj1⟩
  refine va_callv run hS2 (fun z _ h => hF z h) hF (fun u t H3 locs3 ht hvm hw1 hB hz1 hk3 hS3 => ?_)
  obtain ⟨hP3, hK3, hD3⟩ := hB
  rw [ht] at hP3
  obtain ⟨hP4, hD4⟩ := n_join hP2 hD2 hk3 hF hP3 hD3
  have hu : u 0 = q := (hw1 0 (Or.inl (by decide))).trans hq
  have := kk u H3 locs3 (fun z hz => (hw1 z (Or.inr hz)).trans (if_neg (by omega))) hP4 hD4 hS3
  rw [hu] at this
  exact this
theorem law_loop {X : gX} {aM : Nat → Nat} {b L : Nat} {xv : Nat → Int32} (C : lC X aM b L xv) (hAe : ∀ q, xA X q → (xs X).heap.size ≤ q) : ∀ (n : Nat) (jj : Int) (σ τ : gM), 0 ≤ jj → jj ≤ 512 → 513 - jj < n → RR (2000000 * jj) σ τ → gIn gctC σ → gIn gctM τ → LL X aM 18 [(3, .int (Int32.ofInt (5 * jj))), (2, .ref (aM 0)), (1, .ref (xd X 0)), (0, .ref b)] [] σ τ
  | 0, jj, σ, τ, h0, h1, hn, hr, iC, iM => by omega
  | n + 1, jj, σ, τ, h0, h1, hn, hr, iC, iM => by
    have ih := law_loop C hAe n
    obtain ⟨⟨c1, c2, c3, c4, c5⟩, c6, c7, c8, c9, c10, c11, c12, c13, c14, c15, c16, c17, c18⟩ := id C
    have next : jj + 1 ≤ 512 → ∀ σ' τ', RR (2000000 * jj + 2000000) σ' τ' → gIn gctC σ' → gIn gctM τ' → LL X aM 922 [(3, .int (Int32.ofInt (5 * jj))), (2, .ref (aM 0)), (1, .ref (xd X 0)), (0, .ref b)] [] σ' τ' := by
      intro hj σ' τ' hr' iC' iM' H locs ls hP hD hS hl
      refine lv_iinc (x := Int32.ofInt (5 * jj)) (v := Int32.ofInt (5 * (jj + 1))) (lv' := [(3, .int (Int32.ofInt (5 * (jj + 1)))), (2, .ref (aM 0)), (1, .ref (xd X 0)), (0, .ref b)]) c1 c2 dL_922 hl (k := 0) rfl (by rw [← Int32.ofInt_add]; congr 1; omega) (by decide) rfl (fun ls hl => ?_)
      refine lv_goto (tgt := 18) c1 c2 dL_925 (by decide) ?_
      exact ih (jj + 1) σ' τ' (by omega) hj (by omega) (hr'.mono (by omega)) iC' iM' H locs ls hP hD hS hl
    intro H locs ls hP hD hS hl
    refine lv_iload_n c1 c2 dL_18 rfl (lv_at hl 0 rfl) ?_
    refine lv_aload_n c1 c2 dL_19 rfl (lv_at hl 3 rfl) ?_
    refine va_slen c1 c2 c9 c10 c11 hS dL_20 ?_
    refine lv_iconst (v := Int32.ofInt 5) c1 c2 dL_21 rfl ?_
    refine lv_isub c1 c2 dL_22 ?_
    have eL : Int32.ofNat L - Int32.ofInt 5 = Int32.ofInt ((L : Int) - 5) := by
      rw [Int32.ofInt_sub]
      rfl
    rw [eL]
    have g1 : g32 ((L : Int) - 5) := ⟨by omega, by omega⟩
    have g2 : g32 (5 * jj) := ⟨by omega, by omega⟩
    refine lv_icmp_gt (tgt := 928) c1 c2 dL_23 (by decide) (fun _ => ?_) (fun cc => ?_)
    · refine lv_iconst (v := 1) c1 c2 dL_928 (by decide) ?_
      refine va_forget (fun q hq => hAe _ (hS.2.2 q hq)) ?_
      rw [c14, c17, c18]
      exact lw_ret c1 c2 c15 c16 dL_929
    · have hlt : ¬ (L : Int) - 5 < 5 * jj := fun z => cc ((glt g1 g2).mpr z)
      have hi : 5 * jj + 5 ≤ (L : Int) := by omega
      have hj : jj + 1 ≤ 512 := by omega
      have nx := next hj
      refine lv_aload_n c1 c2 dL_26 rfl (lv_at hl 3 rfl) ?_
      refine lv_iload_n c1 c2 dL_27 rfl (lv_at hl 0 rfl) ?_
      refine va_sld c1 c2 c9 c10 c11 hS (gvp g2 (by omega) (by omega)) dL_28 ?_
      refine lv_bipush (v := Int32.ofInt 31) c1 c2 dL_29 (by decide) ?_
      refine lv_iand c1 c2 dL_31 ?_
      generalize hz : xv (Int32.ofInt (5 * jj)).toNatClampNeg &&& Int32.ofInt 31 = z
      by_cases out : z.toInt < 0 ∨ 22 < z.toInt
      · refine lv_tableOut (tgt := 922) c1 c2 dL_32 out (by decide) ?_
        exact nx σ τ (hr.mono (by omega)) iC iM H locs ls hP hD hS hl
      · have i0 : 0 ≤ 5 * jj := by omega
        have B0 : 0 ≤ 2000000 * jj := by omega
        have B1 : 2000000 * jj + 2000000 ≤ 1073741824 := by omega
        have h1 : ¬ z.toInt < 0 := fun q => out (Or.inl q)
        have h2 : ¬ 22 < z.toInt := fun q => out (Or.inr q)
        rcases (show z.toInt = 0 ∨ z.toInt = 1 ∨ z.toInt = 2 ∨ z.toInt = 3 ∨ z.toInt = 4 ∨ z.toInt = 5 ∨ z.toInt = 6 ∨ z.toInt = 7 ∨ z.toInt = 8 ∨ z.toInt = 9 ∨ z.toInt = 10 ∨ z.toInt = 11 ∨ z.toInt = 12 ∨ z.toInt = 13 ∨ z.toInt = 14 ∨ z.toInt = 15 ∨ z.toInt = 16 ∨ z.toInt = 17 ∨ z.toInt = 18 ∨ z.toInt = 19 ∨ z.toInt = 20 ∨ z.toInt = 21 ∨ z.toInt = 22 by omega) with q | q | q | q | q | q | q | q | q | q | q | q | q | q | q | q | q | q | q | q | q | q | q
        · refine lv_tableIn (off := 108) (tgt := 140) c1 c2 dL_32 h1 h2 (by rw [q]; rfl) (by decide) ?_
          exact lcase_0 C rfl i0 hi hr B0 B1 iC iM nx H locs ls hP hD hS hl
        · refine lv_tableIn (off := 131) (tgt := 163) c1 c2 dL_32 h1 h2 (by rw [q]; rfl) (by decide) ?_
          exact lcase_1 C rfl i0 hi hr B0 B1 iC iM nx H locs ls hP hD hS hl
        · refine lv_tableIn (off := 164) (tgt := 196) c1 c2 dL_32 h1 h2 (by rw [q]; rfl) (by decide) ?_
          exact lcase_2 C rfl i0 hi hr B0 B1 iC iM nx H locs ls hP hD hS hl
        · refine lv_tableIn (off := 197) (tgt := 229) c1 c2 dL_32 h1 h2 (by rw [q]; rfl) (by decide) ?_
          exact lcase_3 C rfl i0 hi hr B0 B1 iC iM nx H locs ls hP hD hS hl
        · refine lv_tableIn (off := 230) (tgt := 262) c1 c2 dL_32 h1 h2 (by rw [q]; rfl) (by decide) ?_
          exact lcase_4 C rfl i0 hi hr B0 B1 iC iM nx H locs ls hP hD hS hl
        · refine lv_tableIn (off := 253) (tgt := 285) c1 c2 dL_32 h1 h2 (by rw [q]; rfl) (by decide) ?_
          exact lcase_5 C rfl i0 hi hr B0 B1 iC iM nx H locs ls hP hD hS hl
        · refine lv_tableIn (off := 286) (tgt := 318) c1 c2 dL_32 h1 h2 (by rw [q]; rfl) (by decide) ?_
          exact lcase_6 C rfl i0 hi hr B0 B1 iC iM nx H locs ls hP hD hS hl
        · refine lv_tableIn (off := 319) (tgt := 351) c1 c2 dL_32 h1 h2 (by rw [q]; rfl) (by decide) ?_
          exact lcase_7 C rfl i0 hi hr B0 B1 iC iM nx H locs ls hP hD hS hl
        · refine lv_tableIn (off := 352) (tgt := 384) c1 c2 dL_32 h1 h2 (by rw [q]; rfl) (by decide) ?_
          exact lcase_8 C rfl i0 hi hr B0 B1 iC iM nx H locs ls hP hD hS hl
        · refine lv_tableIn (off := 385) (tgt := 417) c1 c2 dL_32 h1 h2 (by rw [q]; rfl) (by decide) ?_
          exact lcase_9 C rfl i0 hi hr B0 B1 iC iM nx H locs ls hP hD hS hl
        · refine lv_tableIn (off := 408) (tgt := 440) c1 c2 dL_32 h1 h2 (by rw [q]; rfl) (by decide) ?_
          exact lcase_10 C rfl i0 hi hr B0 B1 iC iM nx H locs ls hP hD hS hl
        · refine lv_tableIn (off := 441) (tgt := 473) c1 c2 dL_32 h1 h2 (by rw [q]; rfl) (by decide) ?_
          exact lcase_11 C rfl i0 hi hr B0 B1 iC iM nx H locs ls hP hD hS hl
        · refine lv_tableIn (off := 474) (tgt := 506) c1 c2 dL_32 h1 h2 (by rw [q]; rfl) (by decide) ?_
          exact lcase_12 C rfl i0 hi hr B0 B1 iC iM nx H locs ls hP hD hS hl
        · refine lv_tableIn (off := 517) (tgt := 549) c1 c2 dL_32 h1 h2 (by rw [q]; rfl) (by decide) ?_
          exact lcase_13 C rfl i0 hi hr B0 B1 iC iM nx H locs ls hP hD hS hl
        · refine lv_tableIn (off := 540) (tgt := 572) c1 c2 dL_32 h1 h2 (by rw [q]; rfl) (by decide) ?_
          exact lcase_14 C rfl i0 hi hr B0 B1 iC iM nx H locs ls hP hD hS hl
        · refine lv_tableIn (off := 599) (tgt := 631) c1 c2 dL_32 h1 h2 (by rw [q]; rfl) (by decide) ?_
          exact lcase_15 C rfl i0 hi hr B0 B1 iC iM nx H locs ls hP hD hS hl
        · refine lv_tableIn (off := 642) (tgt := 674) c1 c2 dL_32 h1 h2 (by rw [q]; rfl) (by decide) ?_
          exact lcase_16 C rfl i0 hi hr B0 B1 iC iM nx H locs ls hP hD hS hl
        · refine lv_tableIn (off := 695) (tgt := 727) c1 c2 dL_32 h1 h2 (by rw [q]; rfl) (by decide) ?_
          exact lcase_17 C rfl i0 hi hr B0 B1 iC iM nx H locs ls hP hD hS hl
        · refine lv_tableIn (off := 754) (tgt := 786) c1 c2 dL_32 h1 h2 (by rw [q]; rfl) (by decide) ?_
          exact lcase_18 C rfl i0 hi hr B0 B1 iC iM nx H locs ls hP hD hS hl
        · refine lv_tableIn (off := 777) (tgt := 809) c1 c2 dL_32 h1 h2 (by rw [q]; rfl) (by decide) ?_
          exact lcase_19 C rfl i0 hi hr B0 B1 iC iM nx H locs ls hP hD hS hl
        · refine lv_tableIn (off := 810) (tgt := 842) c1 c2 dL_32 h1 h2 (by rw [q]; rfl) (by decide) ?_
          exact lcase_20 C rfl i0 hi hr B0 B1 iC iM nx H locs ls hP hD hS hl
        · refine lv_tableIn (off := 843) (tgt := 875) c1 c2 dL_32 h1 h2 (by rw [q]; rfl) (by decide) ?_
          exact lcase_21 C rfl i0 hi hr B0 B1 iC iM nx H locs ls hP hD hS hl
        · refine lv_tableIn (off := 867) (tgt := 899) c1 c2 dL_32 h1 h2 (by rw [q]; rfl) (by decide) ?_
          exact lcase_22 C rfl i0 hi hr B0 B1 iC iM nx H locs ls hP hD hS hl
theorem k_arr {args : Array Value} {s : State} {ty : FieldType} {n : String} (hn : "[" ++ ty.toString = n) (h : (Cond.arrayClass ty).before args s = true) : ∃ cA, ArrOfT s cA ty ∧ s.vm.findClass n = some cA := by
  obtain ⟨cA, kA, comp, h1, h2, h3⟩ := Cond.arrayClass_spec h
  subst hn
  exact ⟨cA, fun n z => ⟨fun k h => (by cases h), kA, h2, comp, h3⟩, h1⟩
set_option maxHeartbeats 4000000 in
set_option maxRecDepth 20000 in
theorem whole_start {p : Program} {e : Env} {s : State} {m : MethodId} {below : List Frame} {meth : Method} {c : Code} (l : Launch) (hflags : l.flags = flags0) {b L : Nat} {xs : Nat → Int32} (hL : L ≤ 2560) (C0 : lw_At p s m meth c b L xs) : W p l e room_1 s m #[Value.ref b] below meth c s.heap [] 0 0 (lw_Z below #[Value.ref b] s) (entryFrame m ([Value.ref b] : List Value).toArray 4) := by
  obtain ⟨hx, hb, hr, hml, hown, hts, hX, hbl, hlocks, hgv⟩ := id C0
  have htg : ∀ w ∈ gTb, w.before #[Value.ref b] s = true := gts hts
  obtain ⟨A, hAd⟩ : ∃ A : Nat → Prop, A = fun q => s.heap.size ≤ q := ⟨_, rfl⟩
  have hA : ∀ q, s.heap.size ≤ q → A q := fun q h => by rw [hAd]; exact h
  have hA2 : ∀ q, A q → s.heap.size ≤ q := fun q h => by rw [hAd] at h; exact h
  have hbA : ¬ A b := fun h => absurd (hA2 b h) (Nat.not_le.mpr hbl)
  have hAn : ∀ a : Nat, a < s.heap.size → ¬ A a := fun a h z => absurd (hA2 a z) (Nat.not_le.mpr h)
  obtain ⟨c0, i0, k0⟩ := u_known (C := kR0) (T := kT0) (N := 13) (n := 13) htg kI0 (htg _ nwn_0)
  obtain ⟨c1, i1, k1⟩ := u_known (C := kR1) (T := kT1) (N := 5) (n := 5) htg kI1 (htg _ nwn_1)
  obtain ⟨c2, i2, k2⟩ := u_known (C := kR2) (T := kT2) (N := 14) (n := 14) htg kI2 (htg _ nwn_2)
  obtain ⟨c3, i3, k3⟩ := u_known (C := kR3) (T := kT3) (N := 3) (n := 3) htg kI3 (htg _ nwn_3)
  obtain ⟨c4, i4, k4⟩ := u_known (C := kR4) (T := kT4) (N := 15) (n := 15) htg kI4 (htg _ nwn_4)
  obtain ⟨c5, i5, k5⟩ := u_known (C := kR5) (T := kT5) (N := 4) (n := 4) htg kI5 (htg _ nwn_5)
  obtain ⟨c6, i6, k6⟩ := u_known (C := kR6) (T := kT6) (N := 6) (n := 6) htg kI6 (htg _ lwn_6)
  obtain ⟨c7, i7, k7⟩ := u_known (C := kR7) (T := kT7) (N := 49) (n := 49) htg kI7 (htg _ lwn_7)
  obtain ⟨a0, ha0, hb0⟩ := k_arr (n := "[I") (by decide +kernel) (htg _ nwa_int)
  obtain ⟨a1, ha1, hb1⟩ := k_arr (n := "[Z") (by decide +kernel) (htg _ nwa_boolean)
  obtain ⟨a2, ha2, hb2⟩ := k_arr (n := "[J") (by decide +kernel) (htg _ nwa_long)
  obtain ⟨D, hKc⟩ : ∃ D : va_G, ∀ (k : Nat) (q : vw_C), gcl[k]? = some q → u_Kn s q.1 q.2.1 q.2.2 (D.1 k) (D.2 k) := by
    refine ⟨(fun k => match k with | 0 => c0 | 1 => c1 | 2 => c2 | 3 => c3 | 4 => c4 | 5 => c5 | 6 => c6 | _ => c7, fun k => match k with | 0 => i0 | 1 => i1 | 2 => i2 | 3 => i3 | 4 => i4 | 5 => i5 | 6 => i6 | _ => i7), ?_⟩
    intro k q hq
    match k, hq with
    | 0, hq => cases hq; exact k0
    | 1, hq => cases hq; exact k1
    | 2, hq => cases hq; exact k2
    | 3, hq => cases hq; exact k3
    | 4, hq => cases hq; exact k4
    | 5, hq => cases hq; exact k5
    | 6, hq => cases hq; exact k6
    | 7, hq => cases hq; exact k7
    | k + 8, hq => simp [gcl] at hq
  have hK : va_K D gcl (gtys (a0, a1, a2)) s := by
    refine ⟨hKc, fun k q hq => ?_⟩
    match k, hq with
    | 0, hq => cases hq; exact ⟨ha0, hb0⟩
    | 1, hq => cases hq; exact ⟨ha1, hb1⟩
    | 2, hq => cases hq; exact ⟨ha2, hb2⟩
    | k + 3, hq => simp [gtys] at hq
  have hNx : nNx s := ⟨va_Nw.of rfl (hts (.methodLinkNest "CellToObject" 15 Yn_Ledger "CellToObject") (by decide +kernel)), va_Nw.of rfl (hts (.methodLinkNest "CellToObject$Memory" 25 Yn_Run "CellToObject") (by decide +kernel))⟩
  have hs := flat_of_before _ hgv
  obtain ⟨v1, hv1, hv2, hv3⟩ := xstat (t := .static "CellToObject$Cells" "VALUE_PLACES" "[I") (n := 8) (f := gVP) (hs _ (by decide +kernel)) (hs _ (by decide +kernel)) (fun i hi => by
    match i, hi with
    | 0, _ => exact hs _ (by decide +kernel)
    | 1, _ => exact hs _ (by decide +kernel)
    | 2, _ => exact hs _ (by decide +kernel)
    | 3, _ => exact hs _ (by decide +kernel)
    | 4, _ => exact hs _ (by decide +kernel)
    | 5, _ => exact hs _ (by decide +kernel)
    | 6, _ => exact hs _ (by decide +kernel)
    | 7, _ => exact hs _ (by decide +kernel)
    | i + 8, hi => omega) (by decide)
  obtain ⟨r1, hr1, hr2, hr3⟩ := xstat (t := .static "CellToObject" "HIGHEST_RULE" "[I") (n := 4) (f := gHR) (hs _ (by decide +kernel)) (hs _ (by decide +kernel)) (fun i hi => by
    match i, hi with
    | 0, _ => exact hs _ (by decide +kernel)
    | 1, _ => exact hs _ (by decide +kernel)
    | 2, _ => exact hs _ (by decide +kernel)
    | 3, _ => exact hs _ (by decide +kernel)
    | i + 4, hi => omega) (by decide)
  have hstat : ∀ ad : Nat → Nat, ad 1000 = v1 → ad 1001 = r1 → gS ad A s s.heap := by
    intro ad e1 e2
    refine ⟨⟨?_, by rw [e1]; exact hv2, by rw [e1]; exact hv3, by rw [e1]; exact hAn _ hv3⟩, ?_, by rw [e2]; exact hr2, by rw [e2]; exact hr3, by rw [e2]; exact hAn _ hr3⟩
    · rw [e1]
      exact va_Zof (hts (.laysStatic "CellToObject$Cells" "VALUE_PLACES" "[I") (by decide +kernel)) (hts (.initialized "CellToObject$Cells") (by decide +kernel)) hv1 hAn
    · rw [e2]
      exact va_Zof (hts (.laysStatic "CellToObject" "HIGHEST_RULE" "[I") (by decide +kernel)) (hts (.initialized "CellToObject") (by decide +kernel)) hr1 hAn
  have hS0 : va_S A s.heap s.heap [] := va_S.rf
  have hP0 : va_P D gcl [] s.heap := fun k q h => by simp at h
  have hD0 : va_D A [] := ⟨fun i j p q h => by simp at h, fun k q h => by simp at h⟩
  have hl := lv_entry ([.ref b]) (n := 4) (Nat.le_of_ble_eq_true rfl)
  rw [lg_entry_eq]
  generalize (lg_sl ([.ref b]) ++ List.replicate (4 - (lg_sl ([.ref b])).length) Slot.unset).toArray = ls at hl ⊢
  have hl : lv_has ls 4 [(0, .ref b)] := hl
  refine l_make hx hb hml hown htg hK hNx hA hP0 hD0 hS0 hl (ci := 6) (Tt := kT6) cn_Co rfl kI6 kO6 (by decide +kernel) lwk_7 lwn_6 lwz_6 lwm_9 lwx_6 lwd_6 ⟨by decide, by decide, by decide +kernel⟩ rfl (by decide) (by decide) (by decide) dL_0 dL_3 dL_4 (fun q => if q = 1000 then v1 else r1) (fun u H1 locs1 hu hP1 hD1 hS1 => ?_)
  refine lv_astore_n (lv' := [(1, .ref (u 0)), (0, .ref b)]) hx hb dL_7 rfl hl (by decide) rfl (fun ls hl => ?_)
  refine l_make hx hb hml hown htg hK hNx hA hP1 hD1 hS1 hl (ci := 7) (Tt := kT7) cn_Mo rfl kI7 kO7 (by decide +kernel) lwk_10 lwn_7 lwz_7 lwm_12 lwx_7 lwd_7 ⟨by decide, by decide, by decide +kernel⟩ rfl (by decide) (by decide) (by decide) dL_8 dL_11 dL_12 (fun q => if q = 1000 then v1 else r1) (fun u2 H2 locs2 hu2 hP2 hD2 hS2 => ?_)
  refine lv_astore_n (lv' := [(2, .ref (u2 0)), (1, .ref (u 0)), (0, .ref b)]) hx hb dL_15 rfl hl (by decide) rfl (fun ls hl => ?_)
  refine lv_iconst (v := Int32.ofInt 0) hx hb dL_16 rfl ?_
  refine lv_istore_n (lv' := [(3, .int (Int32.ofInt 0)), (2, .ref (u2 0)), (1, .ref (u 0)), (0, .ref b)]) hx hb dL_17 rfl hl (by decide) rfl (fun ls hl => ?_)
  rw [eC0, eM0, List.nil_append] at hP2 hD2
  have CC : lC ((p, l, e, room_1, s, m, #[Value.ref b], below, meth, c), (A, D, (a0, a1, a2), u, 4, lw_Z below #[Value.ref b] s, ((fun _ _ => 0), 0))) u2 b L xs :=
    ⟨⟨hx, hb, hml, hown, htg⟩, hK, hstat u (hu 1000 (by decide)) (hu 1001 (by decide)), hstat u2 (hu2 1000 (by decide)) (hu2 1001 (by decide)), hX, hbl, hbA, hA, hL, rfl, hr, hlocks, rfl, rfl⟩
  exact law_loop CC hA2 600 0 sC0 sM0 (by decide) (by decide) (by decide) RR_0 inC0 inM0 H2 locs2 ls hP2 hD2 hS2 hl
