/-! the law's own rows, over both sides' memories -/
def lC (X : gX) (aM : Nat → Nat) (b L : Nat) (xv : Nat → Int32) : Prop :=
  ((xp X).tables.exec = Jvm.exec ∧ (xc X).code = code ∧ (xc X).maxLocals = 4 ∧ (xs X).vm.findClass R_law = some (xm X).cls ∧ ∀ w ∈ gTb, w.before (xa X) (xs X) = true) ∧ va_K (xD X) gcl (gtys (xy X)) (xs X) ∧ gS (xd X) (xA X) (xs X) (xs X).heap ∧ gS aM (xA X) (xs X) (xs X).heap ∧
  va_X b L xv (xs X) (xs X).heap ∧ b < (xs X).heap.size ∧ ¬ xA X b ∧ (∀ q, (xs X).heap.size ≤ q → xA X q) ∧ L ≤ 2560 ∧ xR X = room_1 ∧ ((xh X).sig.returnType = ret ∧ (xh X).locks = false ∧ xa X = #[Value.ref b] ∧ xQ X = lw_Z (xb X) #[Value.ref b] (xs X))
def LL (X : gX) (aM : Nat → Nat) (pc : Nat) (Lc : List (Nat × Value)) (st : List Value) (σ τ : gM) : Prop :=
  ∀ (H : Heap) (locs : List Loc) (ls : Array Slot), va_P (xD X) gcl (gW gctC (xy X) (xd X) σ ++ gW gctM (xy X) aM τ) H → va_D (xA X) (gW gctC (xy X) (xd X) σ ++ gW gctM (xy X) aM τ) → va_S (xA X) (xs X).heap H locs → lv_has ls 4 Lc →
    W (xp X) (xl X) (xe X) (xR X) (xs X) (xm X) (xa X) (xb X) (xh X) (xc X) H locs 72 6979 (xQ X) (F0 (xm X) pc ls st)
theorem gA_va {ct : gT} {cy : gY} {ad : Nat → Nat} {σ : gM} {sz q : Nat} : gA ct.length ad sz q ↔ va_A (gW ct cy ad σ) sz q := by
  unfold gA va_A
  constructor
  · rintro (⟨k, hk, rfl⟩ | h)
    · exact Or.inl ⟨k, _, gW_get (List.getElem?_eq_getElem hk)⟩
    · exact Or.inr h
  · rintro (⟨k, e, h⟩ | h)
    · obtain ⟨h1, h2⟩ := gW_ad h
      exact Or.inl ⟨k, h1, h2⟩
    · exact Or.inr h
theorem gS_law {n : Nat} {ad : Nat → Nat} {s U : State} {H : Heap} {locs : List Loc} {A : Nat → Prop} (hs : gS ad A s s.heap) (hS : va_S A s.heap H locs) (hvm : s.vm.Alike U.vm) (hsub : ∀ q, gA n ad H.size q → A q) : gS ad (gA n ad H.size) U H := by
  have hk : ∀ a : Nat, a < s.heap.size → ¬ A a → H[a]? = s.heap[a]? := hS.2.1
  obtain ⟨⟨a1, a2, a3, a4⟩, b1, b2, b3, b4⟩ := hs
  exact ⟨⟨((a1.kept hk).moved hvm).narrow hsub, (a2.kept (hk _ a3 a4)).moved hvm, Nat.lt_of_lt_of_le a3 hS.1, fun q => a4 (hsub _ q)⟩, ((b1.kept hk).moved hvm).narrow hsub, (b2.kept (hk _ b3 b4)).moved hvm, Nat.lt_of_lt_of_le b3 hS.1, fun q => b4 (hsub _ q)⟩
theorem n_join2 {A0 : Nat → Prop} {D : va_G} {wr wc w1 : va_W} {H H1 : Heap} (hP : va_P D gcl (wc ++ wr) H) (hD : va_D A0 (wc ++ wr)) (hk : ∀ q : Nat, q < H.size → ¬ va_A wc H.size q → H1[q]? = H[q]?) (hF : ∀ q, va_A wc H.size q → A0 q) (hP1 : va_P D gcl w1 H1) (hD1 : va_D (va_A wc H.size) w1) : va_P D gcl (w1 ++ wr) H1 ∧ va_D A0 (w1 ++ wr) := by
  have left : ∀ (i : Nat) (q : Nat × va_E), wc[i]? = some q → (wc ++ wr)[i]? = some q := fun i q h => by
    rw [List.getElem?_append_left (List.getElem?_eq_some_iff.mp h).1]; exact h
  have right : ∀ (i : Nat) (q : Nat × va_E), wr[i]? = some q → (wc ++ wr)[wc.length + i]? = some q := fun i q h => by
    rw [List.getElem?_append_right (by omega), Nat.add_sub_cancel_left]; exact h
  have apart : ∀ (i : Nat) (q : Nat × va_E), wr[i]? = some q → q.1 < H.size ∧ ¬ va_A wc H.size q.1 := by
    intro i q hq
    have hl := (hP _ q (right i q hq)).lt
    refine ⟨hl, fun h => ?_⟩
    rcases h with ⟨i2, e, h⟩ | h
    · have := hD.1 (wc.length + i) i2 q (q.1, e) (right i q hq) (left i2 _ h) rfl
      have := (List.getElem?_eq_some_iff.mp h).1
      omega
    · omega
  refine ⟨va_P.app hP1 (fun i q hq => ?_), va_D.app (hD1.weaken fun a q _ h => hF q.1 h) ⟨fun a b p q hp hq e => ?_, fun a q hq => hD.2 _ q (right a q hq)⟩ (fun a b x y hx hy hxy => ?_)⟩
  · obtain ⟨g1, g2⟩ := apart i q hq
    exact (hP _ q (right i q hq)).kept (hk q.1 g1 g2)
  · have := hD.1 (wc.length + a) (wc.length + b) p q (right a p hp) (right b q hq) e
    omega
  · exact (apart b y hy).2 (by rw [← hxy]; exact hD1.2 a x hx)
section LR
variable {X : gX} {aM : Nat → Nat} {b L : Nat} {xv : Nat → Int32} {pc : Nat} {Lc : List (Nat × Value)} {st : List Value} {σ τ : gM}
theorem l_run (C : lC X aM b L xv) {ct : gT} {ad : Nat → Nat} (hgs : gS ad (xA X) (xs X) (xs X).heap) {k0 ci N fr' lo' mL ix : Nat} {T : u_T} {fl : List (Option Nat)} {y : MethodName} {bytes : ByteArray} {rt : Option FieldType} {as : List gV} {r : gR} {H : Heap} {locs : List Loc} {ls : Array Slot} (hM : gCt ct y bytes mL rt fr' lo' (.inr (.inr k0) :: as) σ r) (hc : gcl[ci]? = some (y.cls, T, N)) (hct : ct[k0]? = some (.inr (ci, fl))) (hw : gwV R_law ix y bytes mL rt as.length) (hR : fr' + 1 ≤ 14 ∧ 8 + (mL + 11) + lo' ≤ 580) (hlen : (st.map fun v => v.category).sum ≤ 8) (hdg : decode code pc = .ok (.invokevirtual ix, 3))
    (hP : va_P (xD X) gcl (gW ct (xy X) ad σ) H) (hD : va_D (xA X) (gW ct (xy X) ad σ)) (hS : va_S (xA X) (xs X).heap H locs) (hl : lv_has ls 4 Lc) :
    va_Run (xp X) (xl X) (xe X) (xR X) (xs X) (xm X) (xa X) (xb X) (xh X) (xc X) H locs 72 6979 0 0 (F0 (xm X) pc ls ((as.map (gc ad)).reverse ++ .ref (ad k0) :: st)) st (gPost rt ct (xD X) (xy X) ad (gA ct.length ad H.size) r (Value.ref (ad k0) :: as.map (gc ad)).toArray) (gA ct.length ad H.size) := by
  obtain ⟨⟨c1, c2, c3, c4, c5⟩, c6, c7, c8, c9, c10, c11, c12, c13, c14, c15⟩ := C
  have hsub : ∀ q, gA ct.length ad H.size q → xA X q := by
    intro q hq
    rcases hq with ⟨k, hk, rfl⟩ | hq
    · exact hD.2 k _ (gW_get (List.getElem?_eq_getElem hk))
    · exact c12 q (Nat.le_trans hS.1 hq)
  refine va_runV (As := as.map (gc ad)) (rest := st) ⟨c1, c2, c3, c4, c5⟩ (hM (xl X) (xD X) (xy X) ad H.size) (cwV as.length c5 (ggoodV hw.1.1 hw.1.2.1 hw.1.2.2.1 hw.1.2.2.2.1 hw.1.2.2.2.2) rfl rfl rfl ⟨rfl, hw.2⟩ ⟨by rw [c14]; exact hR.1, by rw [c14]; exact hR.2⟩) ⟨gblind, va_recv c6 hP hc (gW_get hct), fun U hU hW => ⟨rfl, by rw [hU], by rw [hU]; exact hP, va_K.moved hW.alike c6, hD.weaken (fun _ _ _ _ => trivial), by rw [hU]; exact gS_law hgs hS hW.alike hsub⟩⟩ rfl (by rw [List.length_map]) (by show ls.size = 4; exact hl.1) rfl (lv_room hlen) hdg ⟨by rw [c14]; exact Nat.le_refl _, by rw [c14]; exact Nat.le_refl _⟩
theorem lsubC (C : lC X aM b L xv) {H : Heap} {locs : List Loc} (hP : va_P (xD X) gcl (gW gctC (xy X) (xd X) σ ++ gW gctM (xy X) aM τ) H) (hD : va_D (xA X) (gW gctC (xy X) (xd X) σ ++ gW gctM (xy X) aM τ)) (hS : va_S (xA X) (xs X).heap H locs) :
    va_P (xD X) gcl (gW gctC (xy X) (xd X) σ) H ∧ va_D (xA X) (gW gctC (xy X) (xd X) σ) ∧ ∀ q, va_A (gW gctC (xy X) (xd X) σ) H.size q → xA X q := by
  have left : ∀ (i : Nat) (q : Nat × va_E), (gW gctC (xy X) (xd X) σ)[i]? = some q → (gW gctC (xy X) (xd X) σ ++ gW gctM (xy X) aM τ)[i]? = some q := fun i q h => by
    rw [List.getElem?_append_left (List.getElem?_eq_some_iff.mp h).1]; exact h
  refine ⟨fun i q hq => hP i q (left i q hq), ⟨fun a b p q hp hq e => hD.1 a b p q (left a p hp) (left b q hq) e, fun a q hq => hD.2 a q (left a q hq)⟩, fun q hq => ?_⟩
  rcases hq with ⟨k, e, h⟩ | h
  · exact hD.2 k (q, e) (left k _ h)
  · exact C.2.2.2.2.2.2.2.1 q (Nat.le_trans hS.1 h)
theorem lsubM (C : lC X aM b L xv) {H : Heap} {locs : List Loc} (hP : va_P (xD X) gcl (gW gctC (xy X) (xd X) σ ++ gW gctM (xy X) aM τ) H) (hD : va_D (xA X) (gW gctC (xy X) (xd X) σ ++ gW gctM (xy X) aM τ)) (hS : va_S (xA X) (xs X).heap H locs) :
    va_P (xD X) gcl (gW gctM (xy X) aM τ) H ∧ va_D (xA X) (gW gctM (xy X) aM τ) ∧ ∀ q, va_A (gW gctM (xy X) aM τ) H.size q → xA X q := by
  have right : ∀ (i : Nat) (q : Nat × va_E), (gW gctM (xy X) aM τ)[i]? = some q → (gW gctC (xy X) (xd X) σ ++ gW gctM (xy X) aM τ)[(gW gctC (xy X) (xd X) σ).length + i]? = some q := fun i q h => by
    rw [List.getElem?_append_right (by omega), Nat.add_sub_cancel_left]; exact h
  refine ⟨fun i q hq => hP _ q (right i q hq), ⟨fun a b p q hp hq e => ?_, fun a q hq => hD.2 _ q (right a q hq)⟩, fun q hq => ?_⟩
  · have := hD.1 _ _ p q (right a p hp) (right b q hq) e
    omega
  · rcases hq with ⟨k, e, h⟩ | h
    · exact hD.2 _ (q, e) (right k _ h)
    · exact C.2.2.2.2.2.2.2.1 q (Nat.le_trans hS.1 h)
theorem l_callC (C : lC X aM b L xv) {fr' lo' mL ix : Nat} {y : MethodName} {bytes : ByteArray} (as : List gV) {σ' : gM} {r : Int} (hcls : y.cls = kR6) (hM : gCt gctC y bytes mL (some .int) fr' lo' (.inr (.inr 0) :: as) σ (σ', r)) (hw : gwV R_law ix y bytes mL (some .int) as.length) (hR : fr' + 1 ≤ 14 ∧ 8 + (mL + 11) + lo' ≤ 580) (hlen : (st.map fun v => v.category).sum ≤ 8) (hdg : decode code pc = .ok (.invokevirtual ix, 3)) (k : gIn gctC σ' → g32 r → LL X aM (pc + 3) Lc (.int (Int32.ofInt r) :: st) σ' τ) :
    LL X aM pc Lc ((as.map (gc (xd X))).reverse ++ .ref (xd X 0) :: st) σ τ := by
  intro H locs ls hP hD hS hl
  obtain ⟨hPc, hDc, hF⟩ := lsubC C hP hD hS
  have run : va_Run (xp X) (xl X) (xe X) (xR X) (xs X) (xm X) (xa X) (xb X) (xh X) (xc X) H locs 72 6979 0 0 (F0 (xm X) pc ls ((as.map (gc (xd X))).reverse ++ .ref ((xd X) 0) :: st)) st (va_Qi (fun (x : Int32) (u : gM) => x = Int32.ofInt r ∧ u = σ' ∧ gIn gctC σ' ∧ g32 r) (gB gctC (xD X) (xy X) (xd X)) (gA gctC.length (xd X) H.size) (Value.ref ((xd X) 0) :: as.map (gc (xd X))).toArray) (gA gctC.length (xd X) H.size) := l_run C C.2.2.1 hM (ci := 6) (T := kT6) (N := 6) (by rw [hcls]; rfl) rfl hw hR hlen hdg hPc hDc hS hl
  refine va_calli run hS (fun q _ h => hF q (gA_va.mp h)) (fun q h => hF q (gA_va.mp h)) (fun r1 u t H1 locs1 ht hvm hw1 hB hz1 hk1 hS1 => ?_)
  obtain ⟨e1, e2, e3, e4⟩ := hw1
  obtain ⟨hP1, hK1, hD1⟩ := hB
  rw [ht] at hP1
  subst e2
  have hD3 : va_D (va_A (gW gctC (xy X) (xd X) σ) H.size) (gW gctC (xy X) (xd X) u) := gW_D (σ := σ) hDc.self
  have hk3 : ∀ q : Nat, q < H.size → ¬ va_A (gW gctC (xy X) (xd X) σ) H.size q → H1[q]? = H[q]? := fun q h1 h2 => hk1 q h1 (fun z => h2 (gA_va.mp z))
  obtain ⟨hP2, hD2⟩ := n_join2 hP hD hk3 hF hP1 hD3
  rw [e1]
  exact k e3 e4 H1 locs1 ls hP2 hD2 hS1 hl
theorem l_callM (C : lC X aM b L xv) {fr' lo' mL ix : Nat} {y : MethodName} {bytes : ByteArray} (as : List gV) {τ' : gM} {r : Int} (hcls : y.cls = kR7) (hM : gCt gctM y bytes mL (some .int) fr' lo' (.inr (.inr 0) :: as) τ (τ', r)) (hw : gwV R_law ix y bytes mL (some .int) as.length) (hR : fr' + 1 ≤ 14 ∧ 8 + (mL + 11) + lo' ≤ 580) (hlen : (st.map fun v => v.category).sum ≤ 8) (hdg : decode code pc = .ok (.invokevirtual ix, 3)) (k : gIn gctM τ' → g32 r → LL X aM (pc + 3) Lc (.int (Int32.ofInt r) :: st) σ τ') :
    LL X aM pc Lc ((as.map (gc aM)).reverse ++ .ref (aM 0) :: st) σ τ := by
  intro H locs ls hP hD hS hl
  obtain ⟨hPc, hDc, hF⟩ := lsubM C hP hD hS
  have run : va_Run (xp X) (xl X) (xe X) (xR X) (xs X) (xm X) (xa X) (xb X) (xh X) (xc X) H locs 72 6979 0 0 (F0 (xm X) pc ls ((as.map (gc aM)).reverse ++ .ref (aM 0) :: st)) st (va_Qi (fun (x : Int32) (u : gM) => x = Int32.ofInt r ∧ u = τ' ∧ gIn gctM τ' ∧ g32 r) (gB gctM (xD X) (xy X) aM) (gA gctM.length aM H.size) (Value.ref (aM 0) :: as.map (gc aM)).toArray) (gA gctM.length aM H.size) := l_run C C.2.2.2.1 hM (ci := 7) (T := kT7) (N := 49) (by rw [hcls]; rfl) rfl hw hR hlen hdg hPc hDc hS hl
  refine va_calli run hS (fun q _ h => hF q (gA_va.mp h)) (fun q h => hF q (gA_va.mp h)) (fun r1 u t H1 locs1 ht hvm hw1 hB hz1 hk1 hS1 => ?_)
  obtain ⟨e1, e2, e3, e4⟩ := hw1
  obtain ⟨hP1, hK1, hD1⟩ := hB
  rw [ht] at hP1
  subst e2
  have hD3 : va_D (va_A (gW gctM (xy X) aM τ) H.size) (gW gctM (xy X) aM u) := gW_D (σ := τ) hDc.self
  have hk3 : ∀ q : Nat, q < H.size → ¬ va_A (gW gctM (xy X) aM τ) H.size q → H1[q]? = H[q]? := fun q h1 h2 => hk1 q h1 (fun z => h2 (gA_va.mp z))
  obtain ⟨hP2, hD2⟩ := n_join hP hD hk3 hF hP1 hD3
  rw [e1]
  exact k e3 e4 H1 locs1 ls hP2 hD2 hS1 hl
theorem l_callCl (C : lC X aM b L xv) {fr' lo' mL ix : Nat} {y : MethodName} {bytes : ByteArray} (as : List gV) {σ' : gM} {r : Int} (hcls : y.cls = kR6) (hM : gCt gctC y bytes mL (some .long) fr' lo' (.inr (.inr 0) :: as) σ (σ', r)) (hw : gwV R_law ix y bytes mL (some .long) as.length) (hR : fr' + 1 ≤ 14 ∧ 8 + (mL + 11) + lo' ≤ 580) (hlen : (st.map fun v => v.category).sum ≤ 8) (hdg : decode code pc = .ok (.invokevirtual ix, 3)) (k : gIn gctC σ' → LL X aM (pc + 3) Lc (.long (Int64.ofInt r) :: st) σ' τ) :
    LL X aM pc Lc ((as.map (gc (xd X))).reverse ++ .ref (xd X 0) :: st) σ τ := by
  intro H locs ls hP hD hS hl
  obtain ⟨hPc, hDc, hF⟩ := lsubC C hP hD hS
  have run : va_Run (xp X) (xl X) (xe X) (xR X) (xs X) (xm X) (xa X) (xb X) (xh X) (xc X) H locs 72 6979 0 0 (F0 (xm X) pc ls ((as.map (gc (xd X))).reverse ++ .ref ((xd X) 0) :: st)) st (va_Ql (fun (x : Int64) (u : gM) => x = Int64.ofInt r ∧ u = σ' ∧ gIn gctC σ' ∧ g64 r) (gB gctC (xD X) (xy X) (xd X)) (gA gctC.length (xd X) H.size) (Value.ref ((xd X) 0) :: as.map (gc (xd X))).toArray) (gA gctC.length (xd X) H.size) := l_run C C.2.2.1 hM (ci := 6) (T := kT6) (N := 6) (by rw [hcls]; rfl) rfl hw hR hlen hdg hPc hDc hS hl
  refine va_calll run hS (fun q _ h => hF q (gA_va.mp h)) (fun q h => hF q (gA_va.mp h)) (fun r1 u t H1 locs1 ht hvm hw1 hB hz1 hk1 hS1 => ?_)
  obtain ⟨e1, e2, e3, e4⟩ := hw1
  obtain ⟨hP1, hK1, hD1⟩ := hB
  rw [ht] at hP1
  subst e2
  have hD3 : va_D (va_A (gW gctC (xy X) (xd X) σ) H.size) (gW gctC (xy X) (xd X) u) := gW_D (σ := σ) hDc.self
  have hk3 : ∀ q : Nat, q < H.size → ¬ va_A (gW gctC (xy X) (xd X) σ) H.size q → H1[q]? = H[q]? := fun q h1 h2 => hk1 q h1 (fun z => h2 (gA_va.mp z))
  obtain ⟨hP2, hD2⟩ := n_join2 hP hD hk3 hF hP1 hD3
  rw [e1]
  exact k e3 H1 locs1 ls hP2 hD2 hS1 hl
theorem l_callMl (C : lC X aM b L xv) {fr' lo' mL ix : Nat} {y : MethodName} {bytes : ByteArray} (as : List gV) {τ' : gM} {r : Int} (hcls : y.cls = kR7) (hM : gCt gctM y bytes mL (some .long) fr' lo' (.inr (.inr 0) :: as) τ (τ', r)) (hw : gwV R_law ix y bytes mL (some .long) as.length) (hR : fr' + 1 ≤ 14 ∧ 8 + (mL + 11) + lo' ≤ 580) (hlen : (st.map fun v => v.category).sum ≤ 8) (hdg : decode code pc = .ok (.invokevirtual ix, 3)) (k : gIn gctM τ' → LL X aM (pc + 3) Lc (.long (Int64.ofInt r) :: st) σ τ') :
    LL X aM pc Lc ((as.map (gc aM)).reverse ++ .ref (aM 0) :: st) σ τ := by
  intro H locs ls hP hD hS hl
  obtain ⟨hPc, hDc, hF⟩ := lsubM C hP hD hS
  have run : va_Run (xp X) (xl X) (xe X) (xR X) (xs X) (xm X) (xa X) (xb X) (xh X) (xc X) H locs 72 6979 0 0 (F0 (xm X) pc ls ((as.map (gc aM)).reverse ++ .ref (aM 0) :: st)) st (va_Ql (fun (x : Int64) (u : gM) => x = Int64.ofInt r ∧ u = τ' ∧ gIn gctM τ' ∧ g64 r) (gB gctM (xD X) (xy X) aM) (gA gctM.length aM H.size) (Value.ref (aM 0) :: as.map (gc aM)).toArray) (gA gctM.length aM H.size) := l_run C C.2.2.2.1 hM (ci := 7) (T := kT7) (N := 49) (by rw [hcls]; rfl) rfl hw hR hlen hdg hPc hDc hS hl
  refine va_calll run hS (fun q _ h => hF q (gA_va.mp h)) (fun q h => hF q (gA_va.mp h)) (fun r1 u t H1 locs1 ht hvm hw1 hB hz1 hk1 hS1 => ?_)
  obtain ⟨e1, e2, e3, e4⟩ := hw1
  obtain ⟨hP1, hK1, hD1⟩ := hB
  rw [ht] at hP1
  subst e2
  have hD3 : va_D (va_A (gW gctM (xy X) aM τ) H.size) (gW gctM (xy X) aM u) := gW_D (σ := τ) hDc.self
  have hk3 : ∀ q : Nat, q < H.size → ¬ va_A (gW gctM (xy X) aM τ) H.size q → H1[q]? = H[q]? := fun q h1 h2 => hk1 q h1 (fun z => h2 (gA_va.mp z))
  obtain ⟨hP2, hD2⟩ := n_join hP hD hk3 hF hP1 hD3
  rw [e1]
  exact k e3 H1 locs1 ls hP2 hD2 hS1 hl
theorem l_aload (C : lC X aM b L xv) {q : Fin 4} {i a : Nat} (hdg : decode code pc = .ok (.aload_n q, 1)) (hi : (q : Nat) = i) (t : Nat) (ht : Lc[t]? = some (i, .ref a)) (k : LL X aM (pc + 1) Lc (.ref a :: st) σ τ) : LL X aM pc Lc st σ τ := by
  intro H locs ls hP hD hS hl
  exact lv_aload_n C.1.1 C.1.2.1 hdg hi (lv_at hl t ht) (k H locs ls hP hD hS hl)
/-- the script's int at a place -/
def lv (xv : Nat → Int32) (i : Int) : Int := (xv i.toNat).toInt
theorem lv_32 (xv : Nat → Int32) (i : Int) : g32 (lv xv i) := g32_to _
theorem l_arg (C : lC X aM b L xv) {i kk : Int} {x1 x2 : Nat} (h0 : 0 ≤ i) (h1 : i + kk < (L : Int)) (hk : 0 ≤ kk ∧ kk < 5) (ht0 : Lc[x1]? = some (0, .ref b)) (ht3 : Lc[x2]? = some (3, .int (Int32.ofInt i))) (d1 : decode code pc = .ok (.aload_n 0, 1)) (d2 : decode code (pc + 1) = .ok (.iload_n 3, 1)) (d3 : decode code (pc + 2) = .ok (.iconst kk, 1)) (d4 : decode code (pc + 3) = .ok (.iadd, 1)) (d5 : decode code (pc + 4) = .ok (.iaload, 1))
    (k : LL X aM (pc + 5) Lc (.int (Int32.ofInt (lv xv (i + kk))) :: st) σ τ) : LL X aM pc Lc st σ τ := by
  intro H locs ls hP hD hS hl
  obtain ⟨⟨c1, c2, c3, c4, c5⟩, c6, c7, c8, c9, c10, c11, c12, c13, c14, c15⟩ := C
  refine lv_aload_n c1 c2 d1 rfl (lv_at hl x1 ht0) ?_
  refine lv_iload_n c1 c2 d2 rfl (lv_at hl x2 ht3) ?_
  refine lv_iconst (v := Int32.ofInt kk) c1 c2 d3 rfl ?_
  refine lv_iadd c1 c2 d4 ?_
  rw [← Int32.ofInt_add]
  have hg : g32 (i + kk) := ⟨by omega, by omega⟩
  refine va_sld c1 c2 c9 c10 c11 hS (gvp hg (by omega) h1) d5 ?_
  rw [gin hg]
  have e : Int32.ofInt (lv xv (i + kk)) = xv (i + kk).toNat := gof _
  rw [← e]
  exact k H locs ls hP hD hS hl
def bz (v : Int) : Int := if v = 0 then 0 else 1
theorem bz_01 (v : Int) : bz v = 0 ∨ bz v = 1 := by unfold bz; split <;> omega
theorem l_bz (C : lC X aM b L xv) {v o1 o2 : Int} {t1 t2 : Nat} (hv : g32 v) (d1 : decode code pc = .ok (.ifCond .eq o1, 3)) (d2 : decode code (pc + 3) = .ok (.iconst 1, 1)) (d3 : decode code (pc + 4) = .ok (.goto o2, 3)) (d4 : decode code t1 = .ok (.iconst 0, 1)) (e1 : (pc : Int) + o1 = (t1 : Int)) (e2 : ((pc + 4 : Nat) : Int) + o2 = (t2 : Int)) (e3 : t1 + 1 = t2)
    (k : LL X aM t2 Lc (.int (Int32.ofInt (bz v)) :: st) σ τ) : LL X aM pc Lc (.int (Int32.ofInt v) :: st) σ τ := by
  intro H locs ls hP hD hS hl
  obtain ⟨⟨c1, c2, c3, c4, c5⟩, c6, c7, c8, c9, c10, c11, c12, c13, c14, c15⟩ := C
  have hz : Int32.ofInt v = 0 ↔ v = 0 := by
    rw [show (0 : Int32) = Int32.ofInt 0 from rfl]
    exact geq hv g32_0
  have kk := k H locs ls hP hD hS hl
  refine lv_if_eq (tgt := t1) c1 c2 d1 e1 (fun c => ?_) (fun c => ?_)
  · unfold bz at kk
    rw [if_pos (hz.mp c)] at kk
    refine lv_iconst (v := Int32.ofInt 0) c1 c2 d4 rfl ?_
    rw [e3]
    exact kk
  · unfold bz at kk
    rw [if_neg (fun z => c (hz.mpr z))] at kk
    refine lv_iconst (v := Int32.ofInt 1) c1 c2 d2 rfl ?_
    exact lv_goto (tgt := t2) c1 c2 d3 e2 kk
theorem l_same (C : lC X aM b L xv) {r off : Int} (hdg : decode code pc = .ok (.if_icmp .eq off, 3)) (ht : (pc : Int) + off = ((922 : Nat) : Int)) (k : LL X aM 922 Lc st σ τ) : LL X aM pc Lc (.int (Int32.ofInt r) :: .int (Int32.ofInt r) :: st) σ τ := by
  intro H locs ls hP hD hS hl
  exact lv_icmp_eq (tgt := 922) C.1.1 C.1.2.1 hdg ht (fun _ => k H locs ls hP hD hS hl) (fun c => absurd rfl c)
theorem l_samel (C : lC X aM b L xv) {r off : Int} (d1 : decode code pc = .ok (.lcmp, 1)) (d2 : decode code (pc + 1) = .ok (.ifCond .eq off, 3)) (ht : ((pc + 1 : Nat) : Int) + off = ((922 : Nat) : Int)) (k : LL X aM 922 Lc st σ τ) : LL X aM pc Lc (.long (Int64.ofInt r) :: .long (Int64.ofInt r) :: st) σ τ := by
  intro H locs ls hP hD hS hl
  refine W.lcmp C.1.1 C.1.2.1 d1 ?_
  have e : lg_cmp (Int64.ofInt r) (Int64.ofInt r) = 0 := by
    unfold lg_cmp
    simp
  rw [e]
  exact lv_if_eq (tgt := 922) C.1.1 C.1.2.1 d2 ht (fun _ => k H locs ls hP hD hS hl) (fun c => absurd rfl c)
end LR
