/-! the goal over a side's memory, and its rows -/
abbrev gX : Type := (Program × Launch × Env × Room × State × MethodId × Array Value × List Frame × Method × Code) × ((Nat → Prop) × va_G × gY × (Nat → Nat) × Nat × (State → Prop) × gR)
abbrev xp (X : gX) : Program := X.1.1
abbrev xl (X : gX) : Launch := X.1.2.1
abbrev xe (X : gX) : Env := X.1.2.2.1
abbrev xR (X : gX) : Room := X.1.2.2.2.1
abbrev xs (X : gX) : State := X.1.2.2.2.2.1
abbrev xm (X : gX) : MethodId := X.1.2.2.2.2.2.1
abbrev xa (X : gX) : Array Value := X.1.2.2.2.2.2.2.1
abbrev xb (X : gX) : List Frame := X.1.2.2.2.2.2.2.2.1
abbrev xh (X : gX) : Method := X.1.2.2.2.2.2.2.2.2.1
abbrev xc (X : gX) : Code := X.1.2.2.2.2.2.2.2.2.2
abbrev xA (X : gX) : Nat → Prop := X.2.1
abbrev xD (X : gX) : va_G := X.2.2.1
abbrev xy (X : gX) : gY := X.2.2.2.1
abbrev xd (X : gX) : Nat → Nat := X.2.2.2.2.1
abbrev xn (X : gX) : Nat := X.2.2.2.2.2.1
abbrev xQ (X : gX) : State → Prop := X.2.2.2.2.2.2.1
abbrev xr (X : gX) : gR := X.2.2.2.2.2.2.2
def GG (ct : gT) (X : gX) (pc : Nat) (L : List (Nat × gV)) (st : List gV) (σ : gM) (o : gO) : Prop :=
  o = some (xr X) → gOkL L → gOk st → gIn ct σ → ∀ (H : Heap) (locs : List Loc) (ls : Array Slot), va_P (xD X) gcl (gW ct (xy X) (xd X) σ) H → va_D (xA X) (gW ct (xy X) (xd X) σ) → va_S (xA X) (xs X).heap H locs →
    lv_has ls (xn X) (L.map fun q => (q.1, gc (xd X) q.2)) → W (xp X) (xl X) (xe X) (xR X) (xs X) (xm X) (xa X) (xb X) (xh X) (xc X) H locs 0 0 (xQ X) (F0 (xm X) pc ls (st.map (gc (xd X))))
/-- a method's end: the answer and the memory behind it -/
def gB (ct : gT) (D : va_G) (cy : gY) (ad : Nat → Nat) (u : gM) (t : State) : Prop := va_P D gcl (gW ct cy ad u) t.heap ∧ va_K D gcl (gtys cy) t ∧ va_D (fun _ => True) (gW ct cy ad u)
def gPost (ret : Option FieldType) (ct : gT) (D : va_G) (cy : gY) (ad : Nat → Nat) (A : Nat → Prop) (res : gR) : Array Value → State → Outcome → State → Prop := match ret with
  | none => va_Qv (fun u : gM => u = res.1 ∧ gIn ct res.1) (gB ct D cy ad) A
  | some .long => va_Ql (fun (r : Int64) (u : gM) => r = Int64.ofInt res.2 ∧ u = res.1 ∧ gIn ct res.1 ∧ g64 res.2) (gB ct D cy ad) A
  | _ => va_Qi (fun (r : Int32) (u : gM) => r = Int32.ofInt res.2 ∧ u = res.1 ∧ gIn ct res.1 ∧ g32 res.2) (gB ct D cy ad) A
/-- what holds all through a method's walk -/
def gC (ct : gT) (cc : ByteArray) (own : String) (nL fr lo : Nat) (ret : Option FieldType) (X : gX) : Prop :=
  ((xp X).tables.exec = Jvm.exec ∧ (xc X).code = cc ∧ (xc X).maxLocals = nL ∧ (xs X).vm.findClass own = some (xm X).cls ∧ (∀ w ∈ gTb, w.before (xa X) (xs X) = true)) ∧ xn X = nL ∧ (xR X).frames = fr ∧ (xR X).locals = lo ∧
  (xh X).sig.returnType = ret ∧ (xh X).locks = false ∧ va_K (xD X) gcl (gtys (xy X)) (xs X) ∧ xA X = gA ct.length (xd X) (xs X).heap.size ∧ gS (xd X) (xA X) (xs X) (xs X).heap ∧ xQ X = MQ (xb X) (gPost ret ct (xD X) (xy X) (xd X) (xA X) (xr X)) (xa X) (xs X) 0 0 (xA X)
/-- a method's start -/
def gPre (ct : gT) (D : va_G) (cy : gY) (ad : Nat → Nat) (sz : Nat) (σ : gM) : State → Prop := fun U => U.heap.size = sz ∧ va_P D gcl (gW ct cy ad σ) U.heap ∧ va_K D gcl (gtys cy) U ∧ va_D (fun _ => True) (gW ct cy ad σ) ∧ gS ad (gA ct.length ad sz) U U.heap
/-- a method's contract at a memory, some arguments, an answer -/
def gCt (ct : gT) (y : MethodName) (cc : ByteArray) (nL : Nat) (ret : Option FieldType) (fr lo : Nat) (as : List gV) (σ : gM) (res : gR) : Prop :=
  ∀ (l : Launch) (D : va_G) (cy : gY) (ad : Nat → Nat) (sz : Nat), Met l y (.code y cc nL ret :: gTb) { frames := fr, cells := 0, slots := 0, locals := lo } (va_Pc (as.map (gc ad)) (gPre ct D cy ad sz σ)) (gPost ret ct D cy ad (gA ct.length ad sz) res) 0 0 (gA ct.length ad sz)
def gargs : Nat → List gV → List (Nat × gV)
  | _, [] => []
  | i, v :: vs => (i, v) :: gargs (i + 1) vs
def gsh (v : gV) : Bool := match v with
  | .inr (.inl _) => false
  | _ => true
theorem gargs_map (ad : Nat → Nat) : ∀ (as : List gV) (i : Nat), as.all gsh = true → lv_args i (as.map (gc ad)) = (gargs i as).map fun q => (q.1, gc ad q.2)
  | [], _, _ => rfl
  | v :: vs, i, h => by
    rw [List.all_cons, Bool.and_eq_true] at h
    have hc : (gc ad v).category ≠ 2 := by
      rcases v with x | x | x
      · simp [gc, Value.category]
      · simp [gsh] at h
      · simp [gc, Value.category]
    simp only [List.map_cons, lv_args, gargs, if_neg hc]
    rw [gargs_map ad vs (i + 1) h.2]
theorem gsl_len (ad : Nat → Nat) : ∀ (as : List gV), as.all gsh = true → (lg_sl (as.map (gc ad))).length = as.length
  | [], _ => rfl
  | v :: vs, h => by
    rw [List.all_cons, Bool.and_eq_true] at h
    have ih := gsl_len ad vs h.2
    rcases v with x | x | x
    · simp [gc, lg_sl, Value.category] at ih ⊢
      exact ih
    · simp [gsh] at h
    · simp [gc, lg_sl, Value.category] at ih ⊢
      exact ih
theorem gargs_ok : ∀ (as : List gV) (i : Nat), gOk as → gOkL (gargs i as)
  | [], _, _ => fun q h => by cases h
  | v :: vs, i, h => fun q hq => by
    rcases List.mem_cons.mp hq with rfl | hq
    · exact gOk_hd h
    · exact gargs_ok vs (i + 1) (gOk_tl h) q hq
theorem g_entry {ct : gT} {y : MethodName} {cc : ByteArray} {nL : Nat} {ret : Option FieldType} {fr lo : Nat} {as : List gV} {σ : gM} {res : gR} {o : gO} (hy : plainName y.cls = true) (hsh : as.all gsh = true) (hn : as.length ≤ nL) (ho : o = some res) (hok : gOk as) (hin : gIn ct σ)
    (body : ∀ X : gX, gC ct cc y.cls nL fr lo ret X → GG ct X 0 (gargs 0 as) [] σ o) : gCt ct y cc nL ret fr lo as σ res := by
  intro l D cy ad sz
  refine Met.ofW (cc := cc) (maxL := nL) (ret := ret) hy rfl ?_
  intro p e s m args below meth c s₁ B hml hv
  obtain ⟨rfl, rfl, hP, hK, hD0, hS⟩ := hv
  have hts := atoms_spec (ws := .code y cc nL ret :: gTb) B.pre
  have hown : s.vm.findClass y.cls = some m.cls := findClass_of_methodNamed B.named
  have hl := lv_entry (as.map (gc ad)) (n := nL) (by rw [gsl_len ad as hsh]; exact hn)
  rw [lg_entry_eq]
  generalize (lg_sl (as.map (gc ad)) ++ List.replicate (nL - (lg_sl (as.map (gc ad))).length) Slot.unset).toArray = ls at hl ⊢
  rw [gargs_map ad as 0 hsh] at hl
  have key := body ((p, l, e, (headSpec (.code y cc nL ret :: gTb) { frames := fr, cells := 0, slots := 0, locals := lo }).room, s, m, (as.map (gc ad)).toArray, below, meth, c), (gA ct.length ad s.heap.size, D, cy, ad, nL, MQ below (gPost ret ct D cy ad (gA ct.length ad s.heap.size) res) (as.map (gc ad)).toArray s 0 0 (gA ct.length ad s.heap.size), res))
    ⟨⟨B.exec, B.bytes, hml, hown, fun w hw => hts w (List.mem_cons_of_mem _ hw)⟩, rfl, rfl, rfl, B.returns, B.notSynchronized, hK, rfl, hS, rfl⟩
  exact key ho (gargs_ok as 0 hok) (fun v h => by cases h) hin s.heap [] ls hP (gW_DA hD0) va_S.rf hl
section GR
variable {ct : gT} {cc : ByteArray} {own : String} {nL fr lo : Nat} {ret : Option FieldType} {X : gX} {pc : Nat} {L : List (Nat × gV)} {st : List gV} {σ : gM}
theorem g_none : GG ct X pc L st σ none := fun h => by cases h
theorem g_ite {c : Prop} (dc : Decidable c) {o1 o2 : gO} (k1 : c → GG ct X pc L st σ o1) (k2 : ¬ c → GG ct X pc L st σ o2) : GG ct X pc L st σ (@ite _ c dc o1 o2) := by
  by_cases h : c
  · rw [if_pos h]; exact k1 h
  · rw [if_neg h]; exact k2 h
theorem g_sub {o : gO} {L' : List (Nat × gV)} (ks : List Nat) (hL : ks.filterMap (fun k => L[k]?) = L') (k : GG ct X pc L' st σ o) : GG ct X pc L st σ o := by
  intro ho hok hst hin H locs ls hP hD hS hl
  refine k ho (fun q hq => ?_) hst hin H locs ls hP hD hS (lv_sub hl ks ?_)
  · rw [← hL] at hq
    obtain ⟨i, -, hi⟩ := List.mem_filterMap.mp hq
    exact hok q (List.mem_of_getElem? hi)
  · rw [← hL]
    unfold lv_pick
    rw [List.map_filterMap]
    congr 1
    funext i
    rw [List.getElem?_map]
theorem g_iconst (C : gC ct cc own nL fr lo ret X) {o : gO} {n : Int} (hdg : decode cc pc = .ok (.iconst n, 1)) (hn : g32 n) (k : GG ct X (pc + 1) L (.inl n :: st) σ o) : GG ct X pc L st σ o := by
  intro ho hL hst hin H locs ls hP hD hS hl
  exact lv_iconst C.1.1 C.1.2.1 hdg rfl (k ho hL (gOk_cons hn hst) hin H locs ls hP hD hS hl)
theorem g_bipush (C : gC ct cc own nL fr lo ret X) {o : gO} {n : Int} (hdg : decode cc pc = .ok (.bipush n, 2)) (hv : (Int8.ofInt n).toInt32 = Int32.ofInt n) (hn : g32 n) (k : GG ct X (pc + 2) L (.inl n :: st) σ o) : GG ct X pc L st σ o := by
  intro ho hL hst hin H locs ls hP hD hS hl
  exact lv_bipush C.1.1 C.1.2.1 hdg hv (k ho hL (gOk_cons hn hst) hin H locs ls hP hD hS hl)
theorem g_sipush (C : gC ct cc own nL fr lo ret X) {o : gO} {n : Int} (hdg : decode cc pc = .ok (.sipush n, 3)) (hv : (Int16.ofInt n).toInt32 = Int32.ofInt n) (hn : g32 n) (k : GG ct X (pc + 3) L (.inl n :: st) σ o) : GG ct X pc L st σ o := by
  intro ho hL hst hin H locs ls hP hD hS hl
  exact lv_sipush C.1.1 C.1.2.1 hdg hv (k ho hL (gOk_cons hn hst) hin H locs ls hP hD hS hl)
theorem g_lconst (C : gC ct cc own nL fr lo ret X) {o : gO} {n : Fin 2} {v : Int} (hdg : decode cc pc = .ok (.lconst n, 1)) (hv : Int64.ofNat (n : Nat) = Int64.ofInt v) (hn : g64 v) (k : GG ct X (pc + 1) L (.inr (.inl v) :: st) σ o) : GG ct X pc L st σ o := by
  intro ho hL hst hin H locs ls hP hD hS hl
  exact lv_lconst C.1.1 C.1.2.1 hdg hv (k ho hL (gOk_cons hn hst) hin H locs ls hP hD hS hl)
theorem g_ldcw (C : gC ct cc own nL fr lo ret X) {o : gO} {ix : Nat} {n : Int} (hdg : decode cc pc = .ok (.ldc_w ix, 3)) (hw : Cond.constant own ix (Int32.ofInt n) ∈ gTb) (hn : g32 n) (k : GG ct X (pc + 3) L (.inl n :: st) σ o) : GG ct X pc L st σ o := by
  intro ho hL hst hin H locs ls hP hD hS hl
  exact lv_ldcw C.1.1 C.1.2.1 C.1.2.2.2.1 (C.1.2.2.2.2 _ hw) hdg (k ho hL (gOk_cons hn hst) hin H locs ls hP hD hS hl)
theorem g_ldc2 (C : gC ct cc own nL fr lo ret X) {o : gO} {ix : Nat} {n : Int} (hdg : decode cc pc = .ok (.ldc2_w ix, 3)) (hw : Cond.constantLong own ix (Int64.ofInt n) ∈ gTb) (hn : g64 n) (k : GG ct X (pc + 3) L (.inr (.inl n) :: st) σ o) : GG ct X pc L st σ o := by
  intro ho hL hst hin H locs ls hP hD hS hl
  exact lv_ldc2 C.1.1 C.1.2.1 C.1.2.2.2.1 (C.1.2.2.2.2 _ hw) hdg (k ho hL (gOk_cons hn hst) hin H locs ls hP hD hS hl)
theorem g_at {ls : Array Slot} {n : Nat} {ad : Nat → Nat} (hl : lv_has ls n (L.map fun q => (q.1, gc ad q.2))) {k i : Nat} {v : gV} (hk : L[k]? = some (i, v)) : ls[i]? = some (.val (gc ad v)) :=
  lv_at hl k (by rw [List.getElem?_map, hk]; rfl)
theorem g_iload_n (C : gC ct cc own nL fr lo ret X) {o : gO} {j : Fin 4} {i : Nat} {x : Int} (hdg : decode cc pc = .ok (.iload_n j, 1)) (hi : (j : Nat) = i) (t : Nat) (ht : L[t]? = some (i, .inl x)) (k : GG ct X (pc + 1) L (.inl x :: st) σ o) : GG ct X pc L st σ o := by
  intro ho hL hst hin H locs ls hP hD hS hl
  exact lv_iload_n C.1.1 C.1.2.1 hdg hi (g_at hl ht) (k ho hL (gOk_cons (gOkL_at hL ht) hst) hin H locs ls hP hD hS hl)
theorem g_iload (C : gC ct cc own nL fr lo ret X) {o : gO} {i : Nat} {x : Int} (hdg : decode cc pc = .ok (.iload i, 2)) (t : Nat) (ht : L[t]? = some (i, .inl x)) (k : GG ct X (pc + 2) L (.inl x :: st) σ o) : GG ct X pc L st σ o := by
  intro ho hL hst hin H locs ls hP hD hS hl
  exact lv_iload C.1.1 C.1.2.1 hdg (g_at hl ht) (k ho hL (gOk_cons (gOkL_at hL ht) hst) hin H locs ls hP hD hS hl)
theorem g_lload_n (C : gC ct cc own nL fr lo ret X) {o : gO} {j : Fin 4} {i : Nat} {x : Int} (hdg : decode cc pc = .ok (.lload_n j, 1)) (hi : (j : Nat) = i) (t : Nat) (ht : L[t]? = some (i, .inr (.inl x))) (k : GG ct X (pc + 1) L (.inr (.inl x) :: st) σ o) : GG ct X pc L st σ o := by
  intro ho hL hst hin H locs ls hP hD hS hl
  exact lv_lload_n C.1.1 C.1.2.1 hdg hi (g_at hl ht) (k ho hL (gOk_cons (gOkL_at hL ht) hst) hin H locs ls hP hD hS hl)
theorem g_lload (C : gC ct cc own nL fr lo ret X) {o : gO} {i : Nat} {x : Int} (hdg : decode cc pc = .ok (.lload i, 2)) (t : Nat) (ht : L[t]? = some (i, .inr (.inl x))) (k : GG ct X (pc + 2) L (.inr (.inl x) :: st) σ o) : GG ct X pc L st σ o := by
  intro ho hL hst hin H locs ls hP hD hS hl
  exact lv_lload C.1.1 C.1.2.1 hdg (g_at hl ht) (k ho hL (gOk_cons (gOkL_at hL ht) hst) hin H locs ls hP hD hS hl)
theorem g_aload_n (C : gC ct cc own nL fr lo ret X) {o : gO} {j : Fin 4} {i r : Nat} (hdg : decode cc pc = .ok (.aload_n j, 1)) (hi : (j : Nat) = i) (t : Nat) (ht : L[t]? = some (i, .inr (.inr r))) (k : GG ct X (pc + 1) L (.inr (.inr r) :: st) σ o) : GG ct X pc L st σ o := by
  intro ho hL hst hin H locs ls hP hD hS hl
  exact lv_aload_n C.1.1 C.1.2.1 hdg hi (g_at hl ht) (k ho hL (gOk_cons trivial hst) hin H locs ls hP hD hS hl)
theorem g_aload (C : gC ct cc own nL fr lo ret X) {o : gO} {i r : Nat} (hdg : decode cc pc = .ok (.aload i, 2)) (t : Nat) (ht : L[t]? = some (i, .inr (.inr r))) (k : GG ct X (pc + 2) L (.inr (.inr r) :: st) σ o) : GG ct X pc L st σ o := by
  intro ho hL hst hin H locs ls hP hD hS hl
  exact lv_aload C.1.1 C.1.2.1 hdg (g_at hl ht) (k ho hL (gOk_cons trivial hst) hin H locs ls hP hD hS hl)
def gst1 (i : Nat) (v : gV) (L : List (Nat × gV)) : List (Nat × gV) := (i, v) :: L.filter fun q => !(q.1 == i) && !(q.1 + 1 == i && !gsh q.2)
def gst2 (i : Nat) (v : gV) (L : List (Nat × gV)) : List (Nat × gV) := (i, v) :: L.filter fun q => !(q.1 == i) && (!(q.1 == i + 1) && !(q.1 + 1 == i && !gsh q.2))
theorem gcat (ad : Nat → Nat) (v : gV) : ((gc ad v).category == 2) = !gsh v := by
  rcases v with x | x | x <;> simp [gc, gsh, Value.category]
theorem gst1_map (ad : Nat → Nat) (i : Nat) (v : gV) (L : List (Nat × gV)) : (i, gc ad v) :: (L.map fun q => (q.1, gc ad q.2)).filter (fun q => !(q.1 == i) && !(q.1 + 1 == i && q.2.category == 2)) = (gst1 i v L).map fun q => (q.1, gc ad q.2) := by
  unfold gst1
  rw [List.map_cons, List.filter_map]
  simp only [Function.comp_def, gcat]
theorem gst2_map (ad : Nat → Nat) (i : Nat) (v : gV) (L : List (Nat × gV)) : (i, gc ad v) :: (L.map fun q => (q.1, gc ad q.2)).filter (fun q => !(q.1 == i) && (!(q.1 == i + 1) && !(q.1 + 1 == i && q.2.category == 2))) = (gst2 i v L).map fun q => (q.1, gc ad q.2) := by
  unfold gst2
  rw [List.map_cons, List.filter_map]
  simp only [Function.comp_def, gcat]
theorem gst1_ok {i : Nat} {v : gV} (hL : gOkL L) (hv : gok v) : gOkL (gst1 i v L) := fun q hq => by
  rcases List.mem_cons.mp hq with rfl | hq
  · exact hv
  · exact hL q (List.mem_filter.mp hq).1
theorem gst2_ok {i : Nat} {v : gV} (hL : gOkL L) (hv : gok v) : gOkL (gst2 i v L) := fun q hq => by
  rcases List.mem_cons.mp hq with rfl | hq
  · exact hv
  · exact hL q (List.mem_filter.mp hq).1
theorem g_istore_n (C : gC ct cc own nL fr lo ret X) {o : gO} {j : Fin 4} {i : Nat} {x : Int} {L' : List (Nat × gV)} (hdg : decode cc pc = .ok (.istore_n j, 1)) (hi : (j : Nat) = i) (hn : i < nL) (hL' : gst1 i (.inl x) L = L') (k : GG ct X (pc + 1) L' st σ o) : GG ct X pc L (.inl x :: st) σ o := by
  intro ho hL hst hin H locs ls hP hD hS hl
  refine lv_istore_n C.1.1 C.1.2.1 hdg hi hl (by rw [C.2.1]; exact hn) (gst1_map (xd X) i (.inl x) L) fun ls hl => ?_
  subst hL'
  exact k ho (gst1_ok hL (gOk_hd hst)) (gOk_tl hst) hin H locs ls hP hD hS hl
theorem g_istore (C : gC ct cc own nL fr lo ret X) {o : gO} {i : Nat} {x : Int} {L' : List (Nat × gV)} (hdg : decode cc pc = .ok (.istore i, 2)) (hn : i < nL) (hL' : gst1 i (.inl x) L = L') (k : GG ct X (pc + 2) L' st σ o) : GG ct X pc L (.inl x :: st) σ o := by
  intro ho hL hst hin H locs ls hP hD hS hl
  refine lv_istore C.1.1 C.1.2.1 hdg hl (by rw [C.2.1]; exact hn) (gst1_map (xd X) i (.inl x) L) fun ls hl => ?_
  subst hL'
  exact k ho (gst1_ok hL (gOk_hd hst)) (gOk_tl hst) hin H locs ls hP hD hS hl
theorem g_astore (C : gC ct cc own nL fr lo ret X) {o : gO} {i r : Nat} {L' : List (Nat × gV)} (hdg : decode cc pc = .ok (.astore i, 2)) (hn : i < nL) (hL' : gst1 i (.inr (.inr r)) L = L') (k : GG ct X (pc + 2) L' st σ o) : GG ct X pc L (.inr (.inr r) :: st) σ o := by
  intro ho hL hst hin H locs ls hP hD hS hl
  refine lv_astore C.1.1 C.1.2.1 hdg hl (by rw [C.2.1]; exact hn) (gst1_map (xd X) i (.inr (.inr r)) L) fun ls hl => ?_
  subst hL'
  exact k ho (gst1_ok hL trivial) (gOk_tl hst) hin H locs ls hP hD hS hl
theorem g_lstore_n (C : gC ct cc own nL fr lo ret X) {o : gO} {j : Fin 4} {i : Nat} {x : Int} {L' : List (Nat × gV)} (hdg : decode cc pc = .ok (.lstore_n j, 1)) (hi : (j : Nat) = i) (hn : i + 1 < nL) (hL' : gst2 i (.inr (.inl x)) L = L') (k : GG ct X (pc + 1) L' st σ o) : GG ct X pc L (.inr (.inl x) :: st) σ o := by
  intro ho hL hst hin H locs ls hP hD hS hl
  refine lv_lstore_n C.1.1 C.1.2.1 hdg hi hl (by rw [C.2.1]; exact hn) (gst2_map (xd X) i (.inr (.inl x)) L) fun ls hl => ?_
  subst hL'
  exact k ho (gst2_ok hL (gOk_hd hst)) (gOk_tl hst) hin H locs ls hP hD hS hl
theorem g_lstore (C : gC ct cc own nL fr lo ret X) {o : gO} {i : Nat} {x : Int} {L' : List (Nat × gV)} (hdg : decode cc pc = .ok (.lstore i, 2)) (hn : i + 1 < nL) (hL' : gst2 i (.inr (.inl x)) L = L') (k : GG ct X (pc + 2) L' st σ o) : GG ct X pc L (.inr (.inl x) :: st) σ o := by
  intro ho hL hst hin H locs ls hP hD hS hl
  refine lv_lstore C.1.1 C.1.2.1 hdg hl (by rw [C.2.1]; exact hn) (gst2_map (xd X) i (.inr (.inl x)) L) fun ls hl => ?_
  subst hL'
  exact k ho (gst2_ok hL (gOk_hd hst)) (gOk_tl hst) hin H locs ls hP hD hS hl
theorem ga_in {x : Int} {f : Int → gO} {r : gR} (h : ga x f = some r) : g32 x ∧ f x = some r := by
  unfold ga at h
  split at h
  · rename_i q; exact ⟨q, h⟩
  · cases h
theorem gal_in {x : Int} {f : Int → gO} {r : gR} (h : gal x f = some r) : g64 x ∧ f x = some r := by
  unfold gal at h
  split at h
  · rename_i q; exact ⟨q, h⟩
  · cases h
theorem gi_in {i n : Int} {o : gO} {r : gR} (h : gi i n o = some r) : (0 ≤ i ∧ i < n) ∧ o = some r := by
  unfold gi at h
  split at h
  · rename_i q; exact ⟨q, h⟩
  · cases h
theorem gb_in {x : Int} {o : gO} {r : gR} (h : gb x o = some r) : (0 ≤ x ∧ x ≤ 1) ∧ o = some r := by
  unfold gb at h
  split at h
  · rename_i q; exact ⟨q, h⟩
  · cases h
theorem gd_in {x y : Int} {o : gO} {r : gR} (h : gd x y o = some r) : (0 ≤ x ∧ 0 < y) ∧ o = some r := by
  unfold gd at h
  split at h
  · rename_i q; exact ⟨q, h⟩
  · cases h
theorem gw_in {σ : gM} {k : Nat} {n i v : Int} {f : gM → gO} {r : gR} (h : gw σ k n i v f = some r) : (0 ≤ i ∧ i < n) ∧ f (gU σ k i v) = some r := by
  unfold gw at h
  split at h
  · rename_i q; exact ⟨q, h⟩
  · cases h
theorem gwb_in {σ : gM} {k : Nat} {n i v : Int} {f : gM → gO} {r : gR} (h : gwb σ k n i v f = some r) : ((0 ≤ i ∧ i < n) ∧ (0 ≤ v ∧ v ≤ 1)) ∧ f (gU σ k i v) = some r := by
  unfold gwb at h
  split at h
  · rename_i q; exact ⟨q, h⟩
  · cases h
theorem gpb_in {σ : gM} {k : Nat} {j v : Int} {f : gM → gO} {r : gR} (h : gpb σ k j v f = some r) : (0 ≤ v ∧ v ≤ 1) ∧ f (gU σ k j v) = some r := by
  unfold gpb at h
  split at h
  · rename_i q; exact ⟨q, h⟩
  · cases h
theorem gk_in {o : gO} {K : gM → Int → gO} {r : gR} (h : gk o K = some r) : ∃ q : gR, o = some q ∧ K q.1 q.2 = some r := by
  unfold gk at h
  split at h
  · cases h
  · rename_i q; exact ⟨q, rfl, h⟩
theorem g_iinc (C : gC ct cc own nL fr lo ret X) {i t : Nat} {n x : Int} {f : Int → gO} {L' : Int → List (Nat × gV)} (hdg : decode cc pc = .ok (.iinc i n, 3)) (ht : L[t]? = some (i, .inl x)) (hn : i < nL) (hL' : ∀ z, gst1 i (.inl z) L = L' z) (k : ∀ z, GG ct X (pc + 3) (L' z) st σ (f z)) : GG ct X pc L st σ (ga (x + n) f) := by
  intro ho hL hst hin H locs ls hP hD hS hl
  obtain ⟨h1, ho⟩ := ga_in ho
  refine lv_iinc (k := t) (x := Int32.ofInt x) (v := Int32.ofInt (x + n)) C.1.1 C.1.2.1 hdg hl (by rw [List.getElem?_map, ht]; rfl) (Int32.ofInt_add x n).symm (by rw [C.2.1]; exact hn) (gst1_map (xd X) i (.inl (x + n)) L) fun ls hl => ?_
  have k1 := k (x + n)
  rw [← hL' (x + n)] at k1
  exact k1 ho (gst1_ok hL h1) hst hin H locs ls hP hD hS hl
theorem g_iadd (C : gC ct cc own nL fr lo ret X) {x y : Int} {f : Int → gO} (hdg : decode cc pc = .ok (.iadd, 1)) (k : ∀ z, GG ct X (pc + 1) L (.inl z :: st) σ (f z)) : GG ct X pc L (.inl y :: .inl x :: st) σ (ga (x + y) f) := by
  intro ho hL hst hin H locs ls hP hD hS hl
  obtain ⟨h1, ho⟩ := ga_in ho
  have e : Int32.ofInt x + Int32.ofInt y = Int32.ofInt (x + y) := (Int32.ofInt_add x y).symm
  refine lv_iadd (x := Int32.ofInt x) (y := Int32.ofInt y) C.1.1 C.1.2.1 hdg ?_
  rw [e]
  exact k (x + y) ho hL (gOk_cons h1 (gOk_tl (gOk_tl hst))) hin H locs ls hP hD hS hl
theorem g_isub (C : gC ct cc own nL fr lo ret X) {x y : Int} {f : Int → gO} (hdg : decode cc pc = .ok (.isub, 1)) (k : ∀ z, GG ct X (pc + 1) L (.inl z :: st) σ (f z)) : GG ct X pc L (.inl y :: .inl x :: st) σ (ga (x - y) f) := by
  intro ho hL hst hin H locs ls hP hD hS hl
  obtain ⟨h1, ho⟩ := ga_in ho
  have e : Int32.ofInt x - Int32.ofInt y = Int32.ofInt (x - y) := (Int32.ofInt_sub x y).symm
  refine lv_isub (x := Int32.ofInt x) (y := Int32.ofInt y) C.1.1 C.1.2.1 hdg ?_
  rw [e]
  exact k (x - y) ho hL (gOk_cons h1 (gOk_tl (gOk_tl hst))) hin H locs ls hP hD hS hl
theorem g_imul (C : gC ct cc own nL fr lo ret X) {x y : Int} {f : Int → gO} (hdg : decode cc pc = .ok (.imul, 1)) (k : ∀ z, GG ct X (pc + 1) L (.inl z :: st) σ (f z)) : GG ct X pc L (.inl y :: .inl x :: st) σ (ga (x * y) f) := by
  intro ho hL hst hin H locs ls hP hD hS hl
  obtain ⟨h1, ho⟩ := ga_in ho
  have e : Int32.ofInt x * Int32.ofInt y = Int32.ofInt (x * y) := (Int32.ofInt_mul x y).symm
  refine lv_imul (x := Int32.ofInt x) (y := Int32.ofInt y) C.1.1 C.1.2.1 hdg ?_
  rw [e]
  exact k (x * y) ho hL (gOk_cons h1 (gOk_tl (gOk_tl hst))) hin H locs ls hP hD hS hl
theorem g_ineg (C : gC ct cc own nL fr lo ret X) {x : Int} {f : Int → gO} (hdg : decode cc pc = .ok (.ineg, 1)) (k : ∀ z, GG ct X (pc + 1) L (.inl z :: st) σ (f z)) : GG ct X pc L (.inl x :: st) σ (ga (-x) f) := by
  intro ho hL hst hin H locs ls hP hD hS hl
  obtain ⟨h1, ho⟩ := ga_in ho
  have e : -Int32.ofInt x = Int32.ofInt (-x) := (Int32.ofInt_neg x).symm
  refine lv_ineg (x := Int32.ofInt x) C.1.1 C.1.2.1 hdg ?_
  rw [e]
  exact k (-x) ho hL (gOk_cons h1 (gOk_tl hst)) hin H locs ls hP hD hS hl
theorem gdiv {x y : Int} (hx : g32 x) (hy : g32 y) (h : 0 ≤ x ∧ 0 < y) : Int32.ofInt x / Int32.ofInt y = Int32.ofInt (x / y) := by
  rw [← Int.tdiv_eq_ediv_of_nonneg h.1]
  exact (Int32.ofInt_tdiv hx.1 hx.2 hy.1 hy.2).symm
theorem gdiv_ne {y : Int} (hy : g32 y) (h : 0 < y) : ¬ Int32.ofInt y = 0 := by
  rw [show (0 : Int32) = Int32.ofInt 0 from rfl, geq hy g32_0]
  omega
theorem gdiv_ok {x y : Int} (hx : g32 x) (h : 0 ≤ x ∧ 0 < y) : g32 (x / y) := by
  have h1 : 0 ≤ x / y := Int.ediv_nonneg h.1 (Int.le_of_lt h.2)
  have h2 : x / y ≤ x := Int.ediv_le_self y h.1
  exact ⟨by omega, by have := hx.2; omega⟩
theorem g_idiv (C : gC ct cc own nL fr lo ret X) {x y : Int} {o : gO} (hdg : decode cc pc = .ok (.idiv, 1)) (k : GG ct X (pc + 1) L (.inl (x / y) :: st) σ o) : GG ct X pc L (.inl y :: .inl x :: st) σ (gd x y o) := by
  intro ho hL hst hin H locs ls hP hD hS hl
  obtain ⟨h1, ho⟩ := gd_in ho
  have hy : g32 y := gOk_hd hst
  have hx : g32 x := gOk_hd (gOk_tl hst)
  refine lv_idiv (x := Int32.ofInt x) (y := Int32.ofInt y) C.1.1 C.1.2.1 hdg (gdiv_ne hy h1.2) ?_
  rw [gdiv hx hy h1]
  exact k ho hL (gOk_cons (gdiv_ok hx h1) (gOk_tl (gOk_tl hst))) hin H locs ls hP hD hS hl
theorem g_irem (C : gC ct cc own nL fr lo ret X) {x y : Int} {o : gO} (hdg : decode cc pc = .ok (.irem, 1)) (k : GG ct X (pc + 1) L (.inl (x % y) :: st) σ o) : GG ct X pc L (.inl y :: .inl x :: st) σ (gd x y o) := by
  intro ho hL hst hin H locs ls hP hD hS hl
  obtain ⟨h1, ho⟩ := gd_in ho
  have hy : g32 y := gOk_hd hst
  have hx : g32 x := gOk_hd (gOk_tl hst)
  refine lv_irem (x := Int32.ofInt x) (y := Int32.ofInt y) C.1.1 C.1.2.1 hdg (gdiv_ne hy h1.2) ?_
  have e : Int32.ofInt x - Int32.ofInt x / Int32.ofInt y * Int32.ofInt y = Int32.ofInt (x % y) := by
    rw [gdiv hx hy h1, ← Int32.ofInt_mul, ← Int32.ofInt_sub, Int.emod_def, Int.mul_comm]
  rw [e]
  have m0 : 0 ≤ x % y := Int.emod_nonneg x (by omega)
  have m1 : x % y < y := Int.emod_lt_of_pos x h1.2
  exact k ho hL (gOk_cons (show g32 (x % y) from ⟨by omega, by have := hy.2; omega⟩) (gOk_tl (gOk_tl hst))) hin H locs ls hP hD hS hl
theorem g_iand (C : gC ct cc own nL fr lo ret X) {x y : Int} {o : gO} (hdg : decode cc pc = .ok (.iand, 1)) (k : GG ct X (pc + 1) L (.inl (gAnd x y) :: st) σ o) : GG ct X pc L (.inl y :: .inl x :: st) σ o := by
  intro ho hL hst hin H locs ls hP hD hS hl
  refine lv_iand (x := Int32.ofInt x) (y := Int32.ofInt y) C.1.1 C.1.2.1 hdg ?_
  rw [show Int32.ofInt x &&& Int32.ofInt y = Int32.ofInt (gAnd x y) from (gof _).symm]
  exact k ho hL (gOk_cons (show g32 _ from g32_to _) (gOk_tl (gOk_tl hst))) hin H locs ls hP hD hS hl
theorem g_ior (C : gC ct cc own nL fr lo ret X) {x y : Int} {o : gO} (hdg : decode cc pc = .ok (.ior, 1)) (k : GG ct X (pc + 1) L (.inl (gOr x y) :: st) σ o) : GG ct X pc L (.inl y :: .inl x :: st) σ o := by
  intro ho hL hst hin H locs ls hP hD hS hl
  refine lv_ior (x := Int32.ofInt x) (y := Int32.ofInt y) C.1.1 C.1.2.1 hdg ?_
  rw [show Int32.ofInt x ||| Int32.ofInt y = Int32.ofInt (gOr x y) from (gof _).symm]
  exact k ho hL (gOk_cons (show g32 _ from g32_to _) (gOk_tl (gOk_tl hst))) hin H locs ls hP hD hS hl
theorem g_ixor (C : gC ct cc own nL fr lo ret X) {x y : Int} {o : gO} (hdg : decode cc pc = .ok (.ixor, 1)) (k : GG ct X (pc + 1) L (.inl (gXor x y) :: st) σ o) : GG ct X pc L (.inl y :: .inl x :: st) σ o := by
  intro ho hL hst hin H locs ls hP hD hS hl
  refine lv_ixor (x := Int32.ofInt x) (y := Int32.ofInt y) C.1.1 C.1.2.1 hdg ?_
  rw [show Int32.ofInt x ^^^ Int32.ofInt y = Int32.ofInt (gXor x y) from (gof _).symm]
  exact k ho hL (gOk_cons (show g32 _ from g32_to _) (gOk_tl (gOk_tl hst))) hin H locs ls hP hD hS hl
theorem g_ishl (C : gC ct cc own nL fr lo ret X) {x y : Int} {o : gO} (hdg : decode cc pc = .ok (.ishl, 1)) (k : GG ct X (pc + 1) L (.inl (gShl x y) :: st) σ o) : GG ct X pc L (.inl y :: .inl x :: st) σ o := by
  intro ho hL hst hin H locs ls hP hD hS hl
  refine lv_ishl (x := Int32.ofInt x) (y := Int32.ofInt y) C.1.1 C.1.2.1 hdg ?_
  rw [show Int32.ofInt x <<< (Int32.ofInt y &&& 31) = Int32.ofInt (gShl x y) from (gof _).symm]
  exact k ho hL (gOk_cons (show g32 _ from g32_to _) (gOk_tl (gOk_tl hst))) hin H locs ls hP hD hS hl
theorem g_ishr (C : gC ct cc own nL fr lo ret X) {x y : Int} {o : gO} (hdg : decode cc pc = .ok (.ishr, 1)) (k : GG ct X (pc + 1) L (.inl (gShr x y) :: st) σ o) : GG ct X pc L (.inl y :: .inl x :: st) σ o := by
  intro ho hL hst hin H locs ls hP hD hS hl
  refine lv_ishr (x := Int32.ofInt x) (y := Int32.ofInt y) C.1.1 C.1.2.1 hdg ?_
  rw [show Int32.ofInt x >>> (Int32.ofInt y &&& 31) = Int32.ofInt (gShr x y) from (gof _).symm]
  exact k ho hL (gOk_cons (show g32 _ from g32_to _) (gOk_tl (gOk_tl hst))) hin H locs ls hP hD hS hl
theorem g_iushr (C : gC ct cc own nL fr lo ret X) {x y : Int} {o : gO} (hdg : decode cc pc = .ok (.iushr, 1)) (k : GG ct X (pc + 1) L (.inl (gUshr x y) :: st) σ o) : GG ct X pc L (.inl y :: .inl x :: st) σ o := by
  intro ho hL hst hin H locs ls hP hD hS hl
  exact lv_iushr (x := Int32.ofInt x) (y := Int32.ofInt y) (v := Int32.ofInt (gUshr x y)) C.1.1 C.1.2.1 hdg (gof _).symm (k ho hL (gOk_cons (show g32 _ from g32_to _) (gOk_tl (gOk_tl hst))) hin H locs ls hP hD hS hl)
theorem g_ladd (C : gC ct cc own nL fr lo ret X) {x y : Int} {f : Int → gO} (hdg : decode cc pc = .ok (.ladd, 1)) (k : ∀ z, GG ct X (pc + 1) L (.inr (.inl z) :: st) σ (f z)) : GG ct X pc L (.inr (.inl y) :: .inr (.inl x) :: st) σ (gal (x + y) f) := by
  intro ho hL hst hin H locs ls hP hD hS hl
  obtain ⟨h1, ho⟩ := gal_in ho
  have e : Int64.ofInt x + Int64.ofInt y = Int64.ofInt (x + y) := (Int64.ofInt_add x y).symm
  refine lv_ladd (x := Int64.ofInt x) (y := Int64.ofInt y) C.1.1 C.1.2.1 hdg ?_
  rw [e]
  exact k (x + y) ho hL (gOk_cons (show gok _ from h1) (gOk_tl (gOk_tl hst))) hin H locs ls hP hD hS hl
theorem g_lsub (C : gC ct cc own nL fr lo ret X) {x y : Int} {f : Int → gO} (hdg : decode cc pc = .ok (.lsub, 1)) (k : ∀ z, GG ct X (pc + 1) L (.inr (.inl z) :: st) σ (f z)) : GG ct X pc L (.inr (.inl y) :: .inr (.inl x) :: st) σ (gal (x - y) f) := by
  intro ho hL hst hin H locs ls hP hD hS hl
  obtain ⟨h1, ho⟩ := gal_in ho
  have e : Int64.ofInt x - Int64.ofInt y = Int64.ofInt (x - y) := (Int64.ofInt_sub x y).symm
  refine lv_lsub (x := Int64.ofInt x) (y := Int64.ofInt y) C.1.1 C.1.2.1 hdg ?_
  rw [e]
  exact k (x - y) ho hL (gOk_cons (show gok _ from h1) (gOk_tl (gOk_tl hst))) hin H locs ls hP hD hS hl
theorem g_i2l (C : gC ct cc own nL fr lo ret X) {x : Int} {o : gO} (hdg : decode cc pc = .ok (.i2l, 1)) (k : GG ct X (pc + 1) L (.inr (.inl x) :: st) σ o) : GG ct X pc L (.inl x :: st) σ o := by
  intro ho hL hst hin H locs ls hP hD hS hl
  have hx : g32 x := gOk_hd hst
  have e : (Int32.ofInt x).toInt64 = Int64.ofInt x := by
    apply Int64.toInt_inj.mp
    rw [Int32.toInt_toInt64, gti hx, gtl (g32_64 hx)]
  exact lv_i2l (x := Int32.ofInt x) C.1.1 C.1.2.1 hdg e (k ho hL (gOk_cons (show gok _ from g32_64 hx) (gOk_tl hst)) hin H locs ls hP hD hS hl)
theorem g_l2i (C : gC ct cc own nL fr lo ret X) {x : Int} {f : Int → gO} (hdg : decode cc pc = .ok (.l2i, 1)) (k : ∀ z, GG ct X (pc + 1) L (.inl z :: st) σ (f z)) : GG ct X pc L (.inr (.inl x) :: st) σ (ga x f) := by
  intro ho hL hst hin H locs ls hP hD hS hl
  obtain ⟨h1, ho⟩ := ga_in ho
  have e : (Int64.ofInt x).toInt32 = Int32.ofInt x := by
    rw [← gof (Int64.ofInt x).toInt32, Int64.toInt_toInt32, gtl (g32_64 h1)]
    congr 1
    have := h1.1
    have := h1.2
    exact Int.bmod_eq_of_le (by omega) (by omega)
  exact lv_l2i (x := Int64.ofInt x) C.1.1 C.1.2.1 hdg e (k x ho hL (gOk_cons (show gok _ from h1) (gOk_tl hst)) hin H locs ls hP hD hS hl)
theorem g_let (C : gC ct cc own nL fr lo ret X) {x : Int} {f : Int → gO} (k : ∀ z, GG ct X pc L (.inl z :: st) σ (f z)) : GG ct X pc L (.inl x :: st) σ (gv x f) := k x
theorem g_letl (C : gC ct cc own nL fr lo ret X) {x : Int} {f : Int → gO} (k : ∀ z, GG ct X pc L (.inr (.inl z) :: st) σ (f z)) : GG ct X pc L (.inr (.inl x) :: st) σ (gv x f) := k x
theorem gc_cat {ad : Nat → Nat} {v : gV} (h : gsh v = true) : (gc ad v).category = 1 := by
  rcases v with x | x | x
  · rfl
  · cases h
  · rfl
theorem g_dup (C : gC ct cc own nL fr lo ret X) {v : gV} {o : gO} (hdg : decode cc pc = .ok (.dup, 1)) (hv : gsh v = true) (k : GG ct X (pc + 1) L (v :: v :: st) σ o) : GG ct X pc L (v :: st) σ o := by
  intro ho hL hst hin H locs ls hP hD hS hl
  exact lv_dup C.1.1 C.1.2.1 hdg (gc_cat hv) (k ho hL (gOk_cons (gOk_hd hst) hst) hin H locs ls hP hD hS hl)
theorem g_dup2 (C : gC ct cc own nL fr lo ret X) {v w : gV} {o : gO} (hdg : decode cc pc = .ok (.dup2, 1)) (hv : gsh v = true) (hw : gsh w = true) (k : GG ct X (pc + 1) L (v :: w :: v :: w :: st) σ o) : GG ct X pc L (v :: w :: st) σ o := by
  intro ho hL hst hin H locs ls hP hD hS hl
  exact lv_dup2_11 C.1.1 C.1.2.1 hdg (gc_cat hv) (gc_cat hw) (k ho hL (gOk_cons (gOk_hd hst) (gOk_cons (gOk_hd (gOk_tl hst)) hst)) hin H locs ls hP hD hS hl)
theorem g_pop (C : gC ct cc own nL fr lo ret X) {v : gV} {o : gO} (hdg : decode cc pc = .ok (.pop, 1)) (hv : gsh v = true) (k : GG ct X (pc + 1) L st σ o) : GG ct X pc L (v :: st) σ o := by
  intro ho hL hst hin H locs ls hP hD hS hl
  exact lv_pop C.1.1 C.1.2.1 hdg (gc_cat hv) (k ho hL (gOk_tl hst) hin H locs ls hP hD hS hl)
theorem g_goto (C : gC ct cc own nL fr lo ret X) {off : Int} {tgt : Nat} {o : gO} (hdg : decode cc pc = .ok (.goto off, 3)) (ht : (pc : Int) + off = (tgt : Int)) (k : GG ct X tgt L st σ o) : GG ct X pc L st σ o := by
  intro ho hL hst hin H locs ls hP hD hS hl
  exact lv_goto C.1.1 C.1.2.1 hdg ht (k ho hL hst hin H locs ls hP hD hS hl)
end GR
