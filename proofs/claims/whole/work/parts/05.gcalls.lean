/-! calls -/
theorem ggood {w : Cond} (h : w ∈ gTb) : w ∈ gTb ∧ ((w.onTables && w.keeps) = true ∨ ∃ ty, w = .arrayClass ty) := ⟨h, good_of_word (gTb_good h)⟩
theorem ggoodV {own : String} {ix mL : Nat} {y : MethodName} {bytes : ByteArray} {rt : Option FieldType} (w1 : Cond.methodLink own ix y ∈ gTb) (w2 : Cond.instanceMethod y ∈ gTb) (w3 : Cond.selects y.cls y y ∈ gTb) (w4 : Cond.initialized y.cls ∈ gTb) (w5 : Cond.code y bytes mL rt ∈ gTb) : GoodIn gTb (wsV own ix y.cls y (.code y bytes mL rt :: gTb)) := by
  intro w hw
  unfold wsV at hw
  simp only [List.cons_append, List.nil_append, List.mem_cons] at hw
  rcases hw with rfl | rfl | rfl | h | rfl | h
  · exact ggood w1
  · exact ggood w2
  · exact ggood w3
  · subst h; exact ggood w4
  · exact ggood w5
  · exact ggood h
theorem ggoodW {y : MethodName} {mL : Nat} {bytes : ByteArray} {rt : Option FieldType} (w5 : Cond.code y bytes mL rt ∈ gTb) : GoodIn gTb (.code y bytes mL rt :: gTb) := by
  intro w hw
  rcases List.mem_cons.mp hw with rfl | h
  · exact ggood w5
  · exact ggood h
theorem gblind {ct : gT} {D : va_G} {cy : gY} {ad : Nat → Nat} {sz : Nat} {σ : gM} {av : List Value} : FrameBlind (va_Pc av (gPre ct D cy ad sz σ)) := by
  intro a U g mk h
  obtain ⟨h0, h1, h2, h3, h4, h5⟩ := h
  obtain ⟨⟨a1, a2, a3, a4⟩, b1, b2, b3, b4⟩ := h5
  have hv : U.vm.Alike (U.calling g mk a).vm := Vm.Alike.refl U.vm
  exact ⟨h0, h1, h2, va_K.moved hv h3, h4, ⟨a1.moved hv, a2.moved hv, a3, a4⟩, b1.moved hv, b2.moved hv, b3, b4⟩
theorem gcatsum (ad : Nat → Nat) : ∀ st : List gV, ((st.map (gc ad)).map fun v => v.category).sum ≤ 2 * st.length
  | [] => Nat.le_refl _
  | v :: st => by
    have ih := gcatsum ad st
    have h : (gc ad v).category ≤ 2 := by
      rcases v with x | x | x <;> simp [gc, Value.category]
    simp only [List.map_cons, List.sum_cons, List.length_cons]
    omega
section GCALL
variable {ct : gT} {cc : ByteArray} {own : String} {nL fr lo : Nat} {ret : Option FieldType} {X : gX} {pc : Nat} {L : List (Nat × gV)} {st st0 : List gV} {σ : gM} {y : MethodName} {bytes : ByteArray} {mL fr' lo' ix : Nat} {rt : Option FieldType} {as : List gV} {f : gO} {K : gM → Int → gO}
/-- what a call of an instance's method wants -/
def gwV (own : String) (ix : Nat) (y : MethodName) (bytes : ByteArray) (mL : Nat) (rt : Option FieldType) (n : Nat) : Prop := (Cond.methodLink own ix y ∈ gTb ∧ Cond.instanceMethod y ∈ gTb ∧ Cond.selects y.cls y y ∈ gTb ∧ Cond.initialized y.cls ∈ gTb ∧ Cond.code y bytes mL rt ∈ gTb) ∧ y.cls ≠ "java/lang/invoke/MethodHandle" ∧ y.cls ≠ "java/lang/invoke/VarHandle" ∧ (parseMethodDescriptor y.desc).map (fun d => d.parameters.length) = some n
def gwS (own : String) (ix : Nat) (y : MethodName) (bytes : ByteArray) (mL : Nat) (rt : Option FieldType) (n : Nat) : Prop := (Cond.methodLink own ix y ∈ gTb ∧ Cond.static y ∈ gTb ∧ Cond.initialized y.cls ∈ gTb ∧ Cond.code y bytes mL rt ∈ gTb) ∧ y.cls ≠ "java/lang/invoke/MethodHandle" ∧ y.cls ≠ "java/lang/invoke/VarHandle" ∧ (parseMethodDescriptor y.desc).map (fun d => d.parameters.length) = some n
theorem gAsub {n : Nat} {ad : Nat → Nat} {H0 H : Heap} {locs : List Loc} (hS : va_S (gA n ad H0.size) H0 H locs) (q : Nat) (h : gA n ad H.size q) : gA n ad H0.size q := h.imp id (Nat.le_trans hS.1)
theorem g_runV (C : gC ct cc own nL fr lo ret X) {k0 ci N : Nat} {T : u_T} {fl : List (Option Nat)} {r : gR} {H : Heap} {locs : List Loc} {ls : Array Slot} (hst0 : as.reverse ++ .inr (.inr k0) :: st = st0) (hM : gCt ct y bytes mL rt fr' lo' (.inr (.inr k0) :: as) σ r) (hc : gcl[ci]? = some (y.cls, T, N)) (hct : ct[k0]? = some (.inr (ci, fl))) (hw : gwV own ix y bytes mL rt as.length) (hR : fr' + 1 ≤ fr ∧ 8 + (mL + 11) + lo' ≤ lo) (hlen : st.length ≤ 4) (hdg : decode cc pc = .ok (.invokevirtual ix, 3))
    (hP : va_P (xD X) gcl (gW ct (xy X) (xd X) σ) H) (hD : va_D (xA X) (gW ct (xy X) (xd X) σ)) (hS : va_S (xA X) (xs X).heap H locs) (hl : lv_has ls (xn X) (L.map fun q => (q.1, gc (xd X) q.2))) :
    va_Run (xp X) (xl X) (xe X) (xR X) (xs X) (xm X) (xa X) (xb X) (xh X) (xc X) H locs 0 0 0 0 (F0 (xm X) pc ls (st0.map (gc (xd X)))) (st.map (gc (xd X))) (gPost rt ct (xD X) (xy X) (xd X) (gA ct.length (xd X) H.size) r (Value.ref (xd X k0) :: as.map (gc (xd X))).toArray) (gA ct.length (xd X) H.size) := by
  have hK := C.2.2.2.2.2.2.1
  have hS' := hS
  rw [C.2.2.2.2.2.2.2.1] at hS'
  have hs0 := C.2.2.2.2.2.2.2.2.1
  rw [C.2.2.2.2.2.2.2.1] at hs0
  refine va_runV (As := as.map (gc (xd X))) (rest := st.map (gc (xd X))) C.1 (hM (xl X) (xD X) (xy X) (xd X) H.size) (cwV as.length C.1.2.2.2.2 (ggoodV hw.1.1 hw.1.2.1 hw.1.2.2.1 hw.1.2.2.2.1 hw.1.2.2.2.2) rfl rfl rfl ⟨rfl, hw.2⟩ ⟨by rw [C.2.2.1]; exact hR.1, by rw [C.2.2.2.1]; exact hR.2⟩) ⟨gblind, va_recv hK hP hc (gW_get hct), fun U hU hW => ⟨rfl, by rw [hU], by rw [hU]; exact hP, va_K.moved hW.alike hK, hD.weaken (fun _ _ _ _ => trivial), by rw [hU]; exact gS_call hs0 hS' hW.alike⟩⟩ rfl (by rw [List.length_map]) (by show ls.size = nL; rw [← C.2.1]; exact hl.1) (by rw [← hst0]; simp [gc]) (lv_room (Nat.le_trans (gcatsum (xd X) st) (by omega))) hdg ⟨Nat.zero_le _, Nat.zero_le _⟩
theorem g_runS (C : gC ct cc own nL fr lo ret X) {r : gR} {H : Heap} {locs : List Loc} {ls : Array Slot} (hst0 : as.reverse ++ st = st0) (hM : gCt ct y bytes mL rt fr' lo' as σ r) (hw : gwS own ix y bytes mL rt as.length) (hR : fr' + 1 ≤ fr ∧ 8 + (mL + 11) + lo' ≤ lo) (hlen : st.length ≤ 4) (hdg : decode cc pc = .ok (.invokestatic ix, 3))
    (hP : va_P (xD X) gcl (gW ct (xy X) (xd X) σ) H) (hD : va_D (xA X) (gW ct (xy X) (xd X) σ)) (hS : va_S (xA X) (xs X).heap H locs) (hl : lv_has ls (xn X) (L.map fun q => (q.1, gc (xd X) q.2))) :
    va_Run (xp X) (xl X) (xe X) (xR X) (xs X) (xm X) (xa X) (xb X) (xh X) (xc X) H locs 0 0 0 0 (F0 (xm X) pc ls (st0.map (gc (xd X)))) (st.map (gc (xd X))) (gPost rt ct (xD X) (xy X) (xd X) (gA ct.length (xd X) H.size) r (as.map (gc (xd X))).toArray) (gA ct.length (xd X) H.size) := by
  have hK := C.2.2.2.2.2.2.1
  have hS' := hS
  rw [C.2.2.2.2.2.2.2.1] at hS'
  have hs0 := C.2.2.2.2.2.2.2.2.1
  rw [C.2.2.2.2.2.2.2.1] at hs0
  refine va_runS (As := as.map (gc (xd X))) (rest := st.map (gc (xd X))) C.1 (hM (xl X) (xD X) (xy X) (xd X) H.size) ⟨callB_of as.length C.1.2.2.2.2 (ggoodW hw.1.2.2.2) rfl rfl rfl (C.1.2.2.2.2 _ hw.1.2.2.1) (C.1.2.2.2.2 _ hw.1.1) hw.2 ⟨by rw [C.2.2.1]; exact hR.1, by rw [C.2.2.2.1]; exact hR.2⟩, C.1.2.2.2.2 _ hw.1.2.1⟩ ⟨gblind, fun U hU hW => ⟨rfl, by rw [hU], by rw [hU]; exact hP, va_K.moved hW.alike hK, hD.weaken (fun _ _ _ _ => trivial), by rw [hU]; exact gS_call hs0 hS' hW.alike⟩⟩ rfl (by rw [List.length_map]) (by show ls.size = nL; rw [← C.2.1]; exact hl.1) (by rw [← hst0]; simp) (lv_room (Nat.le_trans (gcatsum (xd X) st) (by omega))) hdg ⟨Nat.zero_le _, Nat.zero_le _⟩
theorem gbehind (C : gC ct cc own nL fr lo ret X) {r : gR} {u : gM} {t : State} {H1 : Heap} {locs1 : List Loc} {ls : Array Slot} {pc' : Nat} {st' : List gV} {o : gO} (hu : u = r.1) (ht : t.heap = H1) (hB : gB ct (xD X) (xy X) (xd X) u t) (hD : va_D (xA X) (gW ct (xy X) (xd X) σ)) (hS1 : va_S (xA X) (xs X).heap H1 locs1) (hl : lv_has ls (xn X) (L.map fun q => (q.1, gc (xd X) q.2))) (k : GG ct X pc' L st' r.1 o) (ho : o = some (xr X)) (hL : gOkL L) (hst : gOk st') (hin : gIn ct r.1) :
    W (xp X) (xl X) (xe X) (xR X) (xs X) (xm X) (xa X) (xb X) (xh X) (xc X) H1 locs1 (0 + 0) (0 + 0) (xQ X) (F0 (xm X) pc' ls (st'.map (gc (xd X)))) := by
  subst hu; subst ht
  exact k ho hL hst hin _ _ ls hB.1 (gW_D hD) hS1 hl
theorem g_callVi (C : gC ct cc own nL fr lo ret X) {k0 ci N : Nat} {T : u_T} {fl : List (Option Nat)} (as : List gV) (st : List gV) (hrt : rt = some .int ∨ rt = some .boolean) (hst0 : as.reverse ++ .inr (.inr k0) :: st = st0) (hM : ∀ r, f = some r → gOk (.inr (.inr k0) :: as) → gIn ct σ → gCt ct y bytes mL rt fr' lo' (.inr (.inr k0) :: as) σ r) (hc : gcl[ci]? = some (y.cls, T, N)) (hct : ct[k0]? = some (.inr (ci, fl))) (hw : gwV own ix y bytes mL rt as.length) (hR : fr' + 1 ≤ fr ∧ 8 + (mL + 11) + lo' ≤ lo) (hlen : st.length ≤ 4) (hdg : decode cc pc = .ok (.invokevirtual ix, 3))
    (k : ∀ σ' z, GG ct X (pc + 3) L (.inl z :: st) σ' (K σ' z)) : GG ct X pc L st0 σ (gk f K) := by
  intro ho hL hst hin H locs ls hP hD hS hl
  obtain ⟨r, hf, ho⟩ := gk_in ho
  have hok : gOk (.inr (.inr k0) :: as) := gOk_cons trivial fun v hv => hst v (by rw [← hst0]; exact List.mem_append_left _ (List.mem_reverse.mpr hv))
  have hok2 : gOk st := fun v hv => hst v (by rw [← hst0]; exact List.mem_append_right _ (List.mem_cons_of_mem _ hv))
  have hr := g_runV C hst0 (hM r hf hok hin) hc hct hw hR hlen hdg hP hD hS hl
  have hA : ∀ q, gA ct.length (xd X) H.size q → xA X q := by
    rw [C.2.2.2.2.2.2.2.1] at hS ⊢
    exact gAsub hS
  have hr2 : va_Run (xp X) (xl X) (xe X) (xR X) (xs X) (xm X) (xa X) (xb X) (xh X) (xc X) H locs 0 0 0 0 (F0 (xm X) pc ls (st0.map (gc (xd X)))) (st.map (gc (xd X))) (va_Qi (fun (x : Int32) (u : gM) => x = Int32.ofInt r.2 ∧ u = r.1 ∧ gIn ct r.1 ∧ g32 r.2) (gB ct (xD X) (xy X) (xd X)) (gA ct.length (xd X) H.size) (Value.ref (xd X k0) :: as.map (gc (xd X))).toArray) (gA ct.length (xd X) H.size) := by
    rcases hrt with rfl | rfl <;> exact hr
  refine va_calli hr2 hS (fun q _ h => hA q h) hA (fun x u t H1 locs1 ht hvm hw1 hB hz1 hk1 hS1 => ?_)
  obtain ⟨hx, hu, hin1, hx1⟩ := hw1
  subst hx
  exact gbehind C hu ht hB hD hS1 hl (k r.1 r.2) ho hL (gOk_cons hx1 hok2) hin1
theorem g_callVl (C : gC ct cc own nL fr lo ret X) {k0 ci N : Nat} {T : u_T} {fl : List (Option Nat)} (as : List gV) (st : List gV) (hrt : rt = some .long) (hst0 : as.reverse ++ .inr (.inr k0) :: st = st0) (hM : ∀ r, f = some r → gOk (.inr (.inr k0) :: as) → gIn ct σ → gCt ct y bytes mL rt fr' lo' (.inr (.inr k0) :: as) σ r) (hc : gcl[ci]? = some (y.cls, T, N)) (hct : ct[k0]? = some (.inr (ci, fl))) (hw : gwV own ix y bytes mL rt as.length) (hR : fr' + 1 ≤ fr ∧ 8 + (mL + 11) + lo' ≤ lo) (hlen : st.length ≤ 4) (hdg : decode cc pc = .ok (.invokevirtual ix, 3))
    (k : ∀ σ' z, GG ct X (pc + 3) L (.inr (.inl z) :: st) σ' (K σ' z)) : GG ct X pc L st0 σ (gk f K) := by
  intro ho hL hst hin H locs ls hP hD hS hl
  obtain ⟨r, hf, ho⟩ := gk_in ho
  have hok : gOk (.inr (.inr k0) :: as) := gOk_cons trivial fun v hv => hst v (by rw [← hst0]; exact List.mem_append_left _ (List.mem_reverse.mpr hv))
  have hok2 : gOk st := fun v hv => hst v (by rw [← hst0]; exact List.mem_append_right _ (List.mem_cons_of_mem _ hv))
  have hr := g_runV C hst0 (hM r hf hok hin) hc hct hw hR hlen hdg hP hD hS hl
  have hA : ∀ q, gA ct.length (xd X) H.size q → xA X q := by
    rw [C.2.2.2.2.2.2.2.1] at hS ⊢
    exact gAsub hS
  subst hrt
  have hr2 : va_Run (xp X) (xl X) (xe X) (xR X) (xs X) (xm X) (xa X) (xb X) (xh X) (xc X) H locs 0 0 0 0 (F0 (xm X) pc ls (st0.map (gc (xd X)))) (st.map (gc (xd X))) (va_Ql (fun (x : Int64) (u : gM) => x = Int64.ofInt r.2 ∧ u = r.1 ∧ gIn ct r.1 ∧ g64 r.2) (gB ct (xD X) (xy X) (xd X)) (gA ct.length (xd X) H.size) (Value.ref (xd X k0) :: as.map (gc (xd X))).toArray) (gA ct.length (xd X) H.size) := hr
  refine va_calll hr2 hS (fun q _ h => hA q h) hA (fun x u t H1 locs1 ht hvm hw1 hB hz1 hk1 hS1 => ?_)
  obtain ⟨hx, hu, hin1, hx1⟩ := hw1
  subst hx
  exact gbehind C hu ht hB hD hS1 hl (k r.1 r.2) ho hL (gOk_cons (show gok _ from hx1) hok2) hin1
theorem g_callVv (C : gC ct cc own nL fr lo ret X) {k0 ci N : Nat} {T : u_T} {fl : List (Option Nat)} (as : List gV) (st : List gV) (hrt : rt = none) (hst0 : as.reverse ++ .inr (.inr k0) :: st = st0) (hM : ∀ r, f = some r → gOk (.inr (.inr k0) :: as) → gIn ct σ → gCt ct y bytes mL rt fr' lo' (.inr (.inr k0) :: as) σ r) (hc : gcl[ci]? = some (y.cls, T, N)) (hct : ct[k0]? = some (.inr (ci, fl))) (hw : gwV own ix y bytes mL rt as.length) (hR : fr' + 1 ≤ fr ∧ 8 + (mL + 11) + lo' ≤ lo) (hlen : st.length ≤ 4) (hdg : decode cc pc = .ok (.invokevirtual ix, 3))
    (k : ∀ σ' z, GG ct X (pc + 3) L st σ' (K σ' z)) : GG ct X pc L st0 σ (gk f K) := by
  intro ho hL hst hin H locs ls hP hD hS hl
  obtain ⟨r, hf, ho⟩ := gk_in ho
  have hok : gOk (.inr (.inr k0) :: as) := gOk_cons trivial fun v hv => hst v (by rw [← hst0]; exact List.mem_append_left _ (List.mem_reverse.mpr hv))
  have hok2 : gOk st := fun v hv => hst v (by rw [← hst0]; exact List.mem_append_right _ (List.mem_cons_of_mem _ hv))
  have hr := g_runV C hst0 (hM r hf hok hin) hc hct hw hR hlen hdg hP hD hS hl
  have hA : ∀ q, gA ct.length (xd X) H.size q → xA X q := by
    rw [C.2.2.2.2.2.2.2.1] at hS ⊢
    exact gAsub hS
  subst hrt
  have hr2 : va_Run (xp X) (xl X) (xe X) (xR X) (xs X) (xm X) (xa X) (xb X) (xh X) (xc X) H locs 0 0 0 0 (F0 (xm X) pc ls (st0.map (gc (xd X)))) (st.map (gc (xd X))) (va_Qv (fun u : gM => u = r.1 ∧ gIn ct r.1) (gB ct (xD X) (xy X) (xd X)) (gA ct.length (xd X) H.size) (Value.ref (xd X k0) :: as.map (gc (xd X))).toArray) (gA ct.length (xd X) H.size) := hr
  refine va_callv hr2 hS (fun q _ h => hA q h) hA (fun u t H1 locs1 ht hvm hw1 hB hz1 hk1 hS1 => ?_)
  obtain ⟨hu, hin1⟩ := hw1
  exact gbehind C hu ht hB hD hS1 hl (k r.1 r.2) ho hL hok2 hin1
theorem g_callSi (C : gC ct cc own nL fr lo ret X) (as : List gV) (st : List gV) (hrt : rt = some .int ∨ rt = some .boolean) (hst0 : as.reverse ++ st = st0) (hM : ∀ r, f = some r → gOk as → gIn ct σ → gCt ct y bytes mL rt fr' lo' as σ r) (hw : gwS own ix y bytes mL rt as.length) (hR : fr' + 1 ≤ fr ∧ 8 + (mL + 11) + lo' ≤ lo) (hlen : st.length ≤ 4) (hdg : decode cc pc = .ok (.invokestatic ix, 3))
    (k : ∀ σ' z, GG ct X (pc + 3) L (.inl z :: st) σ' (K σ' z)) : GG ct X pc L st0 σ (gk f K) := by
  intro ho hL hst hin H locs ls hP hD hS hl
  obtain ⟨r, hf, ho⟩ := gk_in ho
  have hok : gOk as := fun v hv => hst v (by rw [← hst0]; exact List.mem_append_left _ (List.mem_reverse.mpr hv))
  have hok2 : gOk st := fun v hv => hst v (by rw [← hst0]; exact List.mem_append_right _ hv)
  have hr := g_runS C hst0 (hM r hf hok hin) hw hR hlen hdg hP hD hS hl
  have hA : ∀ q, gA ct.length (xd X) H.size q → xA X q := by
    rw [C.2.2.2.2.2.2.2.1] at hS ⊢
    exact gAsub hS
  have hr2 : va_Run (xp X) (xl X) (xe X) (xR X) (xs X) (xm X) (xa X) (xb X) (xh X) (xc X) H locs 0 0 0 0 (F0 (xm X) pc ls (st0.map (gc (xd X)))) (st.map (gc (xd X))) (va_Qi (fun (x : Int32) (u : gM) => x = Int32.ofInt r.2 ∧ u = r.1 ∧ gIn ct r.1 ∧ g32 r.2) (gB ct (xD X) (xy X) (xd X)) (gA ct.length (xd X) H.size) (as.map (gc (xd X))).toArray) (gA ct.length (xd X) H.size) := by
    rcases hrt with rfl | rfl <;> exact hr
  refine va_calli hr2 hS (fun q _ h => hA q h) hA (fun x u t H1 locs1 ht hvm hw1 hB hz1 hk1 hS1 => ?_)
  obtain ⟨hx, hu, hin1, hx1⟩ := hw1
  subst hx
  exact gbehind C hu ht hB hD hS1 hl (k r.1 r.2) ho hL (gOk_cons hx1 hok2) hin1
def gMax (x y : Int) : Int := if x < y then y else x
theorem g_mmax (C : gC ct cc own nL fr lo ret X) {o : gO} {x y : Int} (w1 : Cond.methodLink own ix Lib.Math.max.name ∈ gTb) (w2 : Cond.static Lib.Math.max.name ∈ gTb) (w3 : Cond.initialized "java/lang/Math" ∈ gTb) (w4 : Cond.code Lib.Math.max.name Lib.Math.max.code 2 (some .int) ∈ gTb) (hR : 1 ≤ fr ∧ 2 * st.length + 13 ≤ lo) (hdg : decode cc pc = .ok (.invokestatic ix, 3)) (k : GG ct X (pc + 3) L (.inl (gMax x y) :: st) σ o) : GG ct X pc L (.inl y :: .inl x :: st) σ o := by
  intro ho hL hst hin H locs ls hP hD hS hl
  have hy : g32 y := gOk_hd hst
  have hx : g32 x := gOk_hd (gOk_tl hst)
  refine va_mmax (x := Int32.ofInt x) (y := Int32.ofInt y) C.1.1 C.1.2.1 (by rw [C.1.2.2.1, ← C.2.1]; exact hl.1.symm) C.1.2.2.2.1 (C.1.2.2.2.2 _ w1) (C.1.2.2.2.2 _ w2) (C.1.2.2.2.2 _ w3) (C.1.2.2.2.2 _ w4) (by rw [C.2.2.1]; exact hR.1) (by rw [C.2.2.2.1]; exact Nat.le_trans (Nat.add_le_add_right (gcatsum (xd X) st) 13) hR.2) (Nat.zero_le _) (Nat.zero_le _) hdg ?_
  have e : (if Int32.ofInt x < Int32.ofInt y then Int32.ofInt y else Int32.ofInt x) = Int32.ofInt (gMax x y) := by
    unfold gMax
    by_cases h : x < y
    · rw [if_pos h, if_pos ((glt hx hy).mpr h)]
    · rw [if_neg h, if_neg (fun q => h ((glt hx hy).mp q))]
  rw [e]
  have hm : g32 (gMax x y) := by
    unfold gMax
    split
    · exact hy
    · exact hx
  exact k ho hL (gOk_cons (show gok _ from hm) (gOk_tl (gOk_tl hst))) hin H locs ls hP hD hS hl
end GCALL
theorem gl0_run {P : gM → gO → Prop} {body : (gM → gO) → gM → gO} (h0 : ∀ σ, P σ none) (h : ∀ rec : gM → gO, (∀ σ, P σ (rec σ)) → ∀ σ, P σ (body rec σ)) : ∀ n σ, P σ (gl0 body n σ)
  | 0, σ => h0 σ
  | n + 1, σ => h (gl0 body n) (gl0_run h0 h n) σ
theorem gl1_run {P : gM → Int → gO → Prop} {body : (gM → Int → gO) → gM → Int → gO} (h0 : ∀ σ a, P σ a none) (h : ∀ rec : gM → Int → gO, (∀ σ a, P σ a (rec σ a)) → ∀ σ a, P σ a (body rec σ a)) : ∀ n σ a, P σ a (gl1 body n σ a)
  | 0, σ, a => h0 σ a
  | n + 1, σ, a => h (gl1 body n) (gl1_run h0 h n) σ a
theorem gl2_run {P : gM → Int → Int → gO → Prop} {body : (gM → Int → Int → gO) → gM → Int → Int → gO} (h0 : ∀ σ a b, P σ a b none) (h : ∀ rec : gM → Int → Int → gO, (∀ σ a b, P σ a b (rec σ a b)) → ∀ σ a b, P σ a b (body rec σ a b)) : ∀ n σ a b, P σ a b (gl2 body n σ a b)
  | 0, σ, a, b => h0 σ a b
  | n + 1, σ, a, b => h (gl2 body n) (gl2_run h0 h n) σ a b
theorem gl3_run {P : gM → Int → Int → Int → gO → Prop} {body : (gM → Int → Int → Int → gO) → gM → Int → Int → Int → gO} (h0 : ∀ σ a b c, P σ a b c none) (h : ∀ rec : gM → Int → Int → Int → gO, (∀ σ a b c, P σ a b c (rec σ a b c)) → ∀ σ a b c, P σ a b c (body rec σ a b c)) : ∀ n σ a b c, P σ a b c (gl3 body n σ a b c)
  | 0, σ, a, b, c => h0 σ a b c
  | n + 1, σ, a, b, c => h (gl3 body n) (gl3_run h0 h n) σ a b c
theorem gl4_run {P : gM → Int → Int → Int → Int → gO → Prop} {body : (gM → Int → Int → Int → Int → gO) → gM → Int → Int → Int → Int → gO} (h0 : ∀ σ a b c d, P σ a b c d none) (h : ∀ rec : gM → Int → Int → Int → Int → gO, (∀ σ a b c d, P σ a b c d (rec σ a b c d)) → ∀ σ a b c d, P σ a b c d (body rec σ a b c d)) : ∀ n σ a b c d, P σ a b c d (gl4 body n σ a b c d)
  | 0, σ, a, b, c, d => h0 σ a b c d
  | n + 1, σ, a, b, c, d => h (gl4 body n) (gl4_run h0 h n) σ a b c d
