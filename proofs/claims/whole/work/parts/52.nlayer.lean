/-! the N layer: worlds that are being made; an instruction a row -/
abbrev nV : Type := Option gV
abbrev nD : Type := (Nat × (Nat × (Int → Int))) ⊕ (Nat × List nV)
abbrev nT : Type := List (Nat × nD)
def nc (ad : Nat → Nat) (v : nV) : Value := match v with
  | none => .null
  | some v => gc ad v
def nE (cy : gY) (ad : Nat → Nat) (d : nD) : va_E := match d with
  | .inl (0, (n, f)) => .inl (cy.1, (n, .inl (fun j => Int32.ofInt (f (j : Int)))))
  | .inl (1, (n, f)) => .inl (cy.2.1, (n, .inl (fun j => Int32.ofInt (f (j : Int)))))
  | .inl (_, (n, f)) => .inl (cy.2.2, (n, .inr (.inl (fun j => Int64.ofInt (f (j : Int))))))
  | .inr (ci, vs) => .inr (ci, vs.map (nc ad))
def nW (cy : gY) (ad : Nat → Nat) (T : nT) : va_W := T.map fun q => (ad q.1, nE cy ad q.2)
def nref (k : Nat) : nV := some (.inr (.inr k))
def nint (x : Int) : nV := some (.inl x)
def z0 : Int → Int := fun _ => 0
def nset (f : Int → Int) (i v : Int) : Int → Int := fun z => if z = i then v else f z
def fl (v i : Int) : Int → Int := fun z => if 0 ≤ z ∧ z < i then v else 0
theorem fl_0 (v : Int) : fl v 0 = z0 := by
  funext z
  unfold fl z0
  rw [if_neg (by omega)]
theorem fl_s {v i : Int} (h : 0 ≤ i) : nset (fl v i) i v = fl v (i + 1) := by
  funext z
  unfold nset fl
  by_cases c : z = i
  · rw [if_pos c, if_pos (by omega)]
  · rw [if_neg c]
    by_cases d : 0 ≤ z ∧ z < i
    · rw [if_pos d, if_pos (by omega)]
    · rw [if_neg d, if_neg (by omega)]
def nfv (id : Nat) (v : nV) : Bool := match v with
  | some (.inr (.inr r)) => Nat.blt r id
  | _ => true
def nfd (id : Nat) (d : nD) : Bool := match d with
  | .inr (_, vs) => vs.all (nfv id)
  | _ => true
def nfT (id : Nat) (T : nT) : Bool := T.all fun q => Nat.blt q.1 id && nfd id q.2
def nfL (id : Nat) (L : List (Nat × nV)) : Bool := L.all fun q => nfv id q.2
def nfs (id : Nat) (st : List nV) : Bool := st.all (nfv id)
def nLow (id : Nat) (ad ad' : Nat → Nat) : Prop := ∀ q, q < id → ad' q = ad q
theorem nc_low {id : Nat} {ad ad' : Nat → Nat} (h : nLow id ad ad') {v : nV} (hv : nfv id v = true) : nc ad' v = nc ad v := by
  rcases v with _ | x | x | r
  · rfl
  · rfl
  · rfl
  · show Value.ref (ad' r) = Value.ref (ad r)
    rw [h r (Nat.blt_eq.mp hv)]
theorem nE_low {id : Nat} {ad ad' : Nat → Nat} (h : nLow id ad ad') {cy : gY} {d : nD} (hd : nfd id d = true) : nE cy ad' d = nE cy ad d := by
  rcases d with ⟨t, n, f⟩ | ⟨ci, vs⟩
  · match t with
    | 0 => rfl
    | 1 => rfl
    | t + 2 => rfl
  · show (Sum.inr (ci, vs.map (nc ad')) : va_E) = Sum.inr (ci, vs.map (nc ad))
    congr 2
    exact List.map_congr_left fun v hv => nc_low h (List.all_eq_true.mp hd v hv)
theorem nW_low {id : Nat} {ad ad' : Nat → Nat} (h : nLow id ad ad') {cy : gY} {T : nT} (hT : nfT id T = true) : nW cy ad' T = nW cy ad T := by
  unfold nW
  refine List.map_congr_left fun q hq => ?_
  have h1 := List.all_eq_true.mp hT q hq
  rw [Bool.and_eq_true] at h1
  rw [h q.1 (Nat.blt_eq.mp h1.1), nE_low h h1.2]
theorem ns_low {id : Nat} {ad ad' : Nat → Nat} (h : nLow id ad ad') {st : List nV} (hs : nfs id st = true) : st.map (nc ad') = st.map (nc ad) := List.map_congr_left fun v hv => nc_low h (List.all_eq_true.mp hs v hv)
theorem nL_low {id : Nat} {ad ad' : Nat → Nat} (h : nLow id ad ad') {L : List (Nat × nV)} (hs : nfL id L = true) : (L.map fun q => (q.1, nc ad' q.2)) = L.map fun q => (q.1, nc ad q.2) := List.map_congr_left fun q hq => by
  rw [nc_low h (List.all_eq_true.mp hs q hq)]
def nOld (N0 : Nat) (X : gX) (ad : Nat → Nat) : Prop := ∀ q, (q < N0 ∨ 1000 ≤ q) → ad q = xd X q
def NN (N0 : Nat) (X : gX) (pc : Nat) (L : List (Nat × nV)) (st : List nV) (T : nT) (k j : Nat) : Prop :=
  ∀ (ad : Nat → Nat) (H : Heap) (locs : List Loc) (ls : Array Slot), nOld N0 X ad → va_P (xD X) gcl (nW (xy X) ad T) H → va_D (xA X) (nW (xy X) ad T) → va_S (xA X) (xs X).heap H locs →
    lv_has ls (xn X) (L.map fun q => (q.1, nc ad q.2)) → W (xp X) (xl X) (xe X) (xR X) (xs X) (xm X) (xa X) (xb X) (xh X) (xc X) H locs k j (xQ X) (F0 (xm X) pc ls (st.map (nc ad)))
def Yn_Ledger : MethodName := ⟨"CellToObject$Ledger", "<init>", "()V"⟩
def Yn_Run : MethodName := ⟨"CellToObject$Run", "<init>", "()V"⟩
def nNx (U : State) : Prop := va_Nw (.methodLinkNest "CellToObject" 15 Yn_Ledger "CellToObject") U ∧ va_Nw (.methodLinkNest "CellToObject$Memory" 25 Yn_Run "CellToObject") U
def nPost (N0 : Nat) (T1 : nT) (D : va_G) (cy : gY) (ad0 : Nat → Nat) (A : Nat → Prop) : Array Value → State → Outcome → State → Prop :=
  va_Qv (fun ad : Nat → Nat => ∀ q, (q < N0 ∨ 1000 ≤ q) → ad q = ad0 q) (fun ad t => va_P D gcl (nW cy ad T1) t.heap ∧ va_K D gcl (gtys cy) t ∧ va_D A (nW cy ad T1)) A
def nPre (T : nT) (D : va_G) (cy : gY) (ad : Nat → Nat) (sz : Nat) : State → Prop := fun U => U.heap.size = sz ∧ va_P D gcl (nW cy ad T) U.heap ∧ va_K D gcl (gtys cy) U ∧ va_D (fun _ => True) (nW cy ad T) ∧ nNx U
def nCt (y : MethodName) (cc : ByteArray) (nL fr lo mc ms N0 : Nat) (as : List nV) (T T1 : nT) : Prop :=
  ∀ (l : Launch) (D : va_G) (cy : gY) (ad : Nat → Nat) (sz : Nat), Met l y (.code y cc nL none :: gTb) { frames := fr, cells := mc, slots := ms, locals := lo } (va_Pc (as.map (nc ad)) (nPre T D cy ad sz)) (nPost N0 T1 D cy ad (va_A (nW cy ad T) sz)) mc ms (va_A (nW cy ad T) sz)
def nC (cc : ByteArray) (own : String) (nL fr lo mc ms N0 : Nat) (T1 : nT) (X : gX) : Prop :=
  ((xp X).tables.exec = Jvm.exec ∧ (xc X).code = cc ∧ (xc X).maxLocals = nL ∧ (xs X).vm.findClass own = some (xm X).cls ∧ (∀ w ∈ gTb, w.before (xa X) (xs X) = true)) ∧ xn X = nL ∧ (xR X).frames = fr ∧ (xR X).locals = lo ∧ (xR X).cells = mc ∧ (xR X).slots = ms ∧
  (xh X).sig.returnType = none ∧ (xh X).locks = false ∧ (xh X).name = "<init>" ∧ va_K (xD X) gcl (gtys (xy X)) (xs X) ∧ (∀ q, (xs X).heap.size ≤ q → xA X q) ∧ nNx (xs X) ∧ xQ X = MQ (xb X) (nPost N0 T1 (xD X) (xy X) (xd X) (xA X)) (xa X) (xs X) mc ms (xA X)
def nargs : Nat → List nV → List (Nat × nV)
  | _, [] => []
  | i, v :: vs => (i, v) :: nargs (i + 1) vs
def nsh (v : nV) : Bool := match v with
  | some (.inr (.inl _)) => false
  | _ => true
theorem ncat {v : nV} (ad : Nat → Nat) (h : nsh v = true) : (nc ad v).category = 1 := by
  rcases v with _ | x | x | r
  · rfl
  · rfl
  · cases h
  · rfl
theorem nargs_map (ad : Nat → Nat) : ∀ (as : List nV) (i : Nat), as.all nsh = true → lv_args i (as.map (nc ad)) = (nargs i as).map fun q => (q.1, nc ad q.2)
  | [], _, _ => rfl
  | v :: vs, i, h => by
    rw [List.all_cons, Bool.and_eq_true] at h
    have hc : (nc ad v).category ≠ 2 := by rw [ncat ad h.1]; decide
    simp only [List.map_cons, lv_args, nargs, if_neg hc]
    rw [nargs_map ad vs (i + 1) h.2]
theorem nsl_len (ad : Nat → Nat) : ∀ (as : List nV), as.all nsh = true → (lg_sl (as.map (nc ad))).length = as.length
  | [], _ => rfl
  | v :: vs, h => by
    rw [List.all_cons, Bool.and_eq_true] at h
    have ih := nsl_len ad vs h.2
    have hc : (nc ad v).category ≠ 2 := by rw [ncat ad h.1]; decide
    simp only [List.map_cons, lg_sl, if_neg hc, List.length_cons] at ih ⊢
    simp [ih]
    rw [if_neg hc, List.length_singleton]
    omega
theorem n_entry {y : MethodName} {cc : ByteArray} {nL fr lo mc ms N0 : Nat} {as : List nV} {T T1 : nT} (hy : plainName y.cls = true) (hnm : y.name = "<init>") (hsh : as.all nsh = true) (hn : as.length ≤ nL)
    (body : ∀ X : gX, nC cc y.cls nL fr lo mc ms N0 T1 X → NN N0 X 0 (nargs 0 as) [] T 0 0) : nCt y cc nL fr lo mc ms N0 as T T1 := by
  intro l D cy ad sz
  refine Met.ofW (cc := cc) (maxL := nL) (ret := none) hy rfl ?_
  intro p e s m args below meth c s₁ B hml hv
  obtain ⟨rfl, rfl, hP, hK, hD0, hX⟩ := hv
  have hts := atoms_spec (ws := .code y cc nL none :: gTb) B.pre
  have hown : s.vm.findClass y.cls = some m.cls := findClass_of_methodNamed B.named
  have hin : meth.name = "<init>" := (name_of_methodNamed B.named B.method).1.trans hnm
  have hl := lv_entry (as.map (nc ad)) (n := nL) (by rw [nsl_len ad as hsh]; exact hn)
  rw [lg_entry_eq]
  generalize (lg_sl (as.map (nc ad)) ++ List.replicate (nL - (lg_sl (as.map (nc ad))).length) Slot.unset).toArray = ls at hl ⊢
  rw [nargs_map ad as 0 hsh] at hl
  have key := body ((p, l, e, (headSpec (.code y cc nL none :: gTb) { frames := fr, cells := mc, slots := ms, locals := lo }).room, s, m, (as.map (nc ad)).toArray, below, meth, c), (va_A (nW cy ad T) s.heap.size, D, cy, ad, nL, MQ below (nPost N0 T1 D cy ad (va_A (nW cy ad T) s.heap.size)) (as.map (nc ad)).toArray s mc ms (va_A (nW cy ad T) s.heap.size), ((fun _ _ => 0), 0)))
    ⟨⟨B.exec, B.bytes, hml, hown, fun w hw => hts w (List.mem_cons_of_mem _ hw)⟩, rfl, rfl, rfl, rfl, rfl, B.returns, B.notSynchronized, hin, hK, fun q h => Or.inr h, hX, rfl⟩
  exact key ad s.heap [] ls (fun q _ => rfl) hP hD0.self va_S.rf hl
section NR
variable {cc : ByteArray} {own : String} {nL fr lo mc ms N0 : Nat} {T1 : nT} {X : gX} {pc : Nat} {L : List (Nat × nV)} {st : List nV} {T : nT} {k j : Nat}
theorem n_sub {L' : List (Nat × nV)} (ks : List Nat) (hL : ks.filterMap (fun i => L[i]?) = L') (h : NN N0 X pc L' st T k j) : NN N0 X pc L st T k j := by
  intro ad H locs ls ho hP hD hS hl
  refine h ad H locs ls ho hP hD hS (lv_sub hl ks ?_)
  rw [← hL]
  unfold lv_pick
  rw [List.map_filterMap]
  congr 1
  funext i
  rw [List.getElem?_map]
theorem n_at {ls : Array Slot} {n : Nat} {ad : Nat → Nat} (hl : lv_has ls n (L.map fun q => (q.1, nc ad q.2))) {t i : Nat} {v : nV} (hk : L[t]? = some (i, v)) : ls[i]? = some (.val (nc ad v)) :=
  lv_at hl t (by rw [List.getElem?_map, hk]; rfl)
theorem n_aload_n (C : nC cc own nL fr lo mc ms N0 T1 X) {q : Fin 4} {i r : Nat} (hdg : decode cc pc = .ok (.aload_n q, 1)) (hi : (q : Nat) = i) (t : Nat) (ht : L[t]? = some (i, nref r)) (h : NN N0 X (pc + 1) L (nref r :: st) T k j) : NN N0 X pc L st T k j := by
  intro ad H locs ls ho hP hD hS hl
  exact lv_aload_n C.1.1 C.1.2.1 hdg hi (n_at hl ht) (h ad H locs ls ho hP hD hS hl)
theorem n_aload (C : nC cc own nL fr lo mc ms N0 T1 X) {i r : Nat} (hdg : decode cc pc = .ok (.aload i, 2)) (t : Nat) (ht : L[t]? = some (i, nref r)) (h : NN N0 X (pc + 2) L (nref r :: st) T k j) : NN N0 X pc L st T k j := by
  intro ad H locs ls ho hP hD hS hl
  exact lv_aload C.1.1 C.1.2.1 hdg (n_at hl ht) (h ad H locs ls ho hP hD hS hl)
theorem n_iload_n (C : nC cc own nL fr lo mc ms N0 T1 X) {q : Fin 4} {i : Nat} {x : Int} (hdg : decode cc pc = .ok (.iload_n q, 1)) (hi : (q : Nat) = i) (t : Nat) (ht : L[t]? = some (i, nint x)) (h : NN N0 X (pc + 1) L (nint x :: st) T k j) : NN N0 X pc L st T k j := by
  intro ad H locs ls ho hP hD hS hl
  exact lv_iload_n C.1.1 C.1.2.1 hdg hi (n_at hl ht) (h ad H locs ls ho hP hD hS hl)
theorem n_iload (C : nC cc own nL fr lo mc ms N0 T1 X) {i : Nat} {x : Int} (hdg : decode cc pc = .ok (.iload i, 2)) (t : Nat) (ht : L[t]? = some (i, nint x)) (h : NN N0 X (pc + 2) L (nint x :: st) T k j) : NN N0 X pc L st T k j := by
  intro ad H locs ls ho hP hD hS hl
  exact lv_iload C.1.1 C.1.2.1 hdg (n_at hl ht) (h ad H locs ls ho hP hD hS hl)
theorem n_iconst (C : nC cc own nL fr lo mc ms N0 T1 X) {n : Int} (hdg : decode cc pc = .ok (.iconst n, 1)) (h : NN N0 X (pc + 1) L (nint n :: st) T k j) : NN N0 X pc L st T k j := by
  intro ad H locs ls ho hP hD hS hl
  exact lv_iconst C.1.1 C.1.2.1 hdg rfl (h ad H locs ls ho hP hD hS hl)
theorem n_bipush (C : nC cc own nL fr lo mc ms N0 T1 X) {n : Int} (hdg : decode cc pc = .ok (.bipush n, 2)) (hv : (Int8.ofInt n).toInt32 = Int32.ofInt n) (h : NN N0 X (pc + 2) L (nint n :: st) T k j) : NN N0 X pc L st T k j := by
  intro ad H locs ls ho hP hD hS hl
  exact lv_bipush C.1.1 C.1.2.1 hdg hv (h ad H locs ls ho hP hD hS hl)
theorem n_sipush (C : nC cc own nL fr lo mc ms N0 T1 X) {n : Int} (hdg : decode cc pc = .ok (.sipush n, 3)) (hv : (Int16.ofInt n).toInt32 = Int32.ofInt n) (h : NN N0 X (pc + 3) L (nint n :: st) T k j) : NN N0 X pc L st T k j := by
  intro ad H locs ls ho hP hD hS hl
  exact lv_sipush C.1.1 C.1.2.1 hdg hv (h ad H locs ls ho hP hD hS hl)
theorem n_dup (C : nC cc own nL fr lo mc ms N0 T1 X) {v : nV} (hv : nsh v = true) (hdg : decode cc pc = .ok (.dup, 1)) (h : NN N0 X (pc + 1) L (v :: v :: st) T k j) : NN N0 X pc L (v :: st) T k j := by
  intro ad H locs ls ho hP hD hS hl
  exact lv_dup C.1.1 C.1.2.1 hdg (ncat ad hv) (h ad H locs ls ho hP hD hS hl)
theorem n_goto (C : nC cc own nL fr lo mc ms N0 T1 X) {off : Int} {tgt : Nat} (hdg : decode cc pc = .ok (.goto off, 3)) (ht : (pc : Int) + off = (tgt : Int)) (h : NN N0 X tgt L st T k j) : NN N0 X pc L st T k j := by
  intro ad H locs ls ho hP hD hS hl
  exact lv_goto C.1.1 C.1.2.1 hdg ht (h ad H locs ls ho hP hD hS hl)
theorem n_icmp_ge (C : nC cc own nL fr lo mc ms N0 T1 X) {x y off : Int} {tgt : Nat} (hx : g32 x) (hy : g32 y) (hdg : decode cc pc = .ok (.if_icmp .ge off, 3)) (ht : (pc : Int) + off = (tgt : Int)) (h1 : y ≤ x → NN N0 X tgt L st T k j) (h2 : ¬ y ≤ x → NN N0 X (pc + 3) L st T k j) : NN N0 X pc L (nint y :: nint x :: st) T k j := by
  intro ad H locs ls ho hP hD hS hl
  exact lv_icmp_ge C.1.1 C.1.2.1 hdg ht (fun c => h1 ((gle hy hx).mp c) ad H locs ls ho hP hD hS hl) (fun c => h2 (fun z => c ((gle hy hx).mpr z)) ad H locs ls ho hP hD hS hl)
def nst1 (i : Nat) (v : nV) (L : List (Nat × nV)) : List (Nat × nV) := (i, v) :: L.filter fun q => !(q.1 == i) && !(q.1 + 1 == i && !nsh q.2)
theorem ncat2 (ad : Nat → Nat) (v : nV) : ((nc ad v).category == 2) = !nsh v := by
  rcases v with _ | x | x | r <;> rfl
theorem nst1_map (ad : Nat → Nat) (i : Nat) (v : nV) (L : List (Nat × nV)) : (i, nc ad v) :: (L.map fun q => (q.1, nc ad q.2)).filter (fun q => !(q.1 == i) && !(q.1 + 1 == i && q.2.category == 2)) = (nst1 i v L).map fun q => (q.1, nc ad q.2) := by
  unfold nst1
  rw [List.map_cons, List.filter_map]
  simp only [Function.comp_def, ncat2]
theorem n_istore_n (C : nC cc own nL fr lo mc ms N0 T1 X) {q : Fin 4} {i : Nat} {x : Int} {L' : List (Nat × nV)} (hdg : decode cc pc = .ok (.istore_n q, 1)) (hi : (q : Nat) = i) (hn : i < nL) (hL' : nst1 i (nint x) L = L') (h : NN N0 X (pc + 1) L' st T k j) : NN N0 X pc L (nint x :: st) T k j := by
  intro ad H locs ls ho hP hD hS hl
  refine lv_istore_n C.1.1 C.1.2.1 hdg hi hl (by rw [C.2.1]; exact hn) (nst1_map ad i (nint x) L) fun ls hl => ?_
  subst hL'
  exact h ad H locs ls ho hP hD hS hl
theorem n_istore (C : nC cc own nL fr lo mc ms N0 T1 X) {i : Nat} {x : Int} {L' : List (Nat × nV)} (hdg : decode cc pc = .ok (.istore i, 2)) (hn : i < nL) (hL' : nst1 i (nint x) L = L') (h : NN N0 X (pc + 2) L' st T k j) : NN N0 X pc L (nint x :: st) T k j := by
  intro ad H locs ls ho hP hD hS hl
  refine lv_istore C.1.1 C.1.2.1 hdg hl (by rw [C.2.1]; exact hn) (nst1_map ad i (nint x) L) fun ls hl => ?_
  subst hL'
  exact h ad H locs ls ho hP hD hS hl
theorem n_iinc (C : nC cc own nL fr lo mc ms N0 T1 X) {i t : Nat} {n x : Int} {L' : List (Nat × nV)} (hdg : decode cc pc = .ok (.iinc i n, 3)) (ht : L[t]? = some (i, nint x)) (hn : i < nL) (hL' : nst1 i (nint (x + n)) L = L') (h : NN N0 X (pc + 3) L' st T k j) : NN N0 X pc L st T k j := by
  intro ad H locs ls ho hP hD hS hl
  refine lv_iinc (k := t) (x := Int32.ofInt x) (v := Int32.ofInt (x + n)) C.1.1 C.1.2.1 hdg hl (by rw [List.getElem?_map, ht]; rfl) (Int32.ofInt_add x n).symm (by rw [C.2.1]; exact hn) (nst1_map ad i (nint (x + n)) L) fun ls hl => ?_
  subst hL'
  exact h ad H locs ls ho hP hD hS hl
theorem nW_get {cy : gY} {ad : Nat → Nat} {pos : Nat} {q : Nat × nD} (h : T[pos]? = some q) : (nW cy ad T)[pos]? = some (ad q.1, nE cy ad q.2) := by
  unfold nW
  rw [List.getElem?_map, h]
  rfl
theorem nW_set {cy : gY} {ad : Nat → Nat} {pos : Nat} {q : Nat × nD} : (nW cy ad T).set pos (ad q.1, nE cy ad q.2) = nW cy ad (T.set pos q) := by
  unfold nW
  rw [List.map_set]
theorem n_get (C : nC cc own nL fr lo mc ms N0 T1 X) {pos f ix ci id N : Nat} {cn : String} {Tt : u_T} {vs : List nV} {v : nV} (hc : gcl[ci]? = some (cn, Tt, N)) (hw : ∀ w ∈ u_ws cn Tt N, w ∈ gTb) (hT : T[pos]? = some (id, .inr (ci, vs))) (hf : f < N) (hv : vs[f]? = some v) {n d : String} (hTf : Tt f = (cn, n, d, (Tt f).2.2.2)) (hlk : Cond.fieldLink own ix cn n d ∈ gTb) (hdg : decode cc pc = .ok (.getfield ix, 3))
    (h : NN N0 X (pc + 3) L (v :: st) T k j) : NN N0 X pc L (nref id :: st) T k j := by
  intro ad H locs ls ho hP hD hS hl
  obtain ⟨⟨c1, c2, c3, c4, c5⟩, c6, c7, c8, c9, c10, c11, c12, c13, c14, c15, c16, c17⟩ := C
  refine va_get (D := xD X) (v := nc ad v) c1 c2 c5 hw c4 c14 hP pos (nW_get hT) hc f hf (c5 _ (by rw [hTf]; exact hlk)) (ref := cn) (fun _ h => by rw [hTf] at h ⊢; exact h) (by rw [List.getElem?_map, hv]; rfl) hdg ?_
  exact h ad H locs ls ho hP hD hS hl
theorem n_put (C : nC cc own nL fr lo mc ms N0 T1 X) {pos f ix ci id N : Nat} {Tt : u_T} {ty0 : Nat → FieldType} {vs : List nV} {v : nV} {T' : nT} (hc : gcl[ci]? = some (own, Tt, N)) (hw : ∀ w ∈ u_ws own Tt N, w ∈ gTb) (hty : ∀ a, a < N → parseFieldDescriptor (Tt a).2.2.1 = some (ty0 a)) (hnm : ∀ a, a < N → ∀ b, b < N → a ≠ b → (Tt a).2.1 ≠ (Tt b).2.1)
    (hT : T[pos]? = some (id, .inr (ci, vs))) (hf : f < N) (hT' : T.set pos (id, .inr (ci, vs.set f v)) = T') {n d : String} {fin : Bool} (hTf : Tt f = (own, n, d, fin)) (hlk : Cond.fieldLink own ix own n d ∈ gTb) {ty : FieldType} (hd : parseFieldDescriptor d = some ty) (hn : ∀ ad, narrow ty (nc ad v) = nc ad v) (hfit : ∀ ad, fits ty (nc ad v) = true) (hl0 : f < vs.length) (hdg : decode cc pc = .ok (.putfield ix, 3))
    (h : NN N0 X (pc + 3) L st T' k j) : NN N0 X pc L (v :: nref id :: st) T k j := by
  intro ad H locs ls ho hP hD hS hl
  obtain ⟨⟨c1, c2, c3, c4, c5⟩, c6, c7, c8, c9, c10, c11, c12, c13, c14, c15, c16, c17⟩ := C
  have eset : ∀ q : Nat × nD, q = (id, .inr (ci, vs.set f v)) → (nW (xy X) ad T).set pos (ad id, .inr (ci, (vs.map (nc ad)).set f (nc ad v))) = nW (xy X) ad (T.set pos q) := by
    intro q hq
    subst hq
    rw [← nW_set]
    show _ = (nW (xy X) ad T).set pos (ad id, Sum.inr (ci, (vs.set f v).map (nc ad)))
    rw [List.map_set]
  subst hT'
  cases fin with
  | false =>
    refine va_put (D := xD X) (v := nc ad v) (ty := ty) c1 c2 c5 hw ty0 hty hnm c4 c14 hP hD hS pos (nW_get hT) hc f hf (c5 _ (by rw [hTf]; exact hlk)) (ref := own) (fun _ h => by rw [hTf] at h ⊢; exact h) (by rw [hTf]) (by rw [hTf]; exact hd) (hn ad) (hfit ad) (by rw [List.length_map]; exact hl0) hdg fun H1 locs1 hP1 hD1 hS1 => ?_
    rw [eset _ rfl] at hP1 hD1
    exact h ad H1 locs1 ls ho hP1 hD1 hS1 hl
  | true =>
    refine va_putF (D := xD X) (v := nc ad v) (ty := ty) c1 c2 c5 hw ty0 hty hnm c4 c14 hP hD hS pos (nW_get hT) hc f hf (c5 _ (by rw [hTf]; exact hlk)) (ref := own) (fun _ h => by rw [hTf] at h ⊢; exact h) (by rw [hTf]) c13 (by rw [hTf]) (by rw [hTf]; exact hd) (hn ad) (hfit ad) (by rw [List.length_map]; exact hl0) hdg fun H1 locs1 hP1 hD1 hS1 => ?_
    rw [eset _ rfl] at hP1 hD1
    exact h ad H1 locs1 ls ho hP1 hD1 hS1 hl
theorem nupd {f : Int → Int} {i v : Int} (h : 0 ≤ i) : upd (fun j : Nat => Int32.ofInt (f (j : Int))) i.toNat (Int32.ofInt v) = fun j : Nat => Int32.ofInt (nset f i v (j : Int)) := by
  funext j
  unfold upd nset
  by_cases c : j = i.toNat
  · rw [if_pos c, if_pos (by omega)]
  · rw [if_neg c, if_neg (by omega)]
theorem n_iast (C : nC cc own nL fr lo mc ms N0 T1 X) {pos id n : Nat} {f : Int → Int} {i v : Int} {T' : nT} (hT : T[pos]? = some (id, .inl (0, (n, f)))) (hi : 0 ≤ i ∧ i < (n : Int)) (hi2 : g32 i) (hT' : T.set pos (id, .inl (0, (n, nset f i v))) = T') (hdg : decode cc pc = .ok (.iastore, 1))
    (h : NN N0 X (pc + 1) L st T' k j) : NN N0 X pc L (nint v :: nint i :: nref id :: st) T k j := by
  intro ad H locs ls ho hP hD hS hl
  subst hT'
  obtain ⟨⟨c1, c2, c3, c4, c5⟩, c6, c7, c8, c9, c10, c11, c12, c13, c14, c15, c16, c17⟩ := C
  refine va_iast (i := Int32.ofInt i) (x := Int32.ofInt v) c1 c2 c14 hP hD hS pos 0 (nW_get hT) rfl (gvp hi2 hi.1 hi.2) hdg fun H1 locs1 hP1 hD1 hS1 => ?_
  rw [gin hi2, nupd hi.1] at hP1 hD1
  have e := nW_set (T := T) (cy := xy X) (ad := ad) (pos := pos) (q := (id, .inl (0, (n, nset f i v))))
  exact h ad H1 locs1 ls ho (e ▸ hP1) (e ▸ hD1) hS1 hl
def nad (ad : Nat → Nat) (id q : Nat) : Nat → Nat := fun j => if j = id then q else ad j
theorem nad_low {ad : Nat → Nat} {id q : Nat} : nLow id ad (nad ad id q) := fun j hj => if_neg (by omega)
theorem nad_at {ad : Nat → Nat} {id q : Nat} : nad ad id q id = q := if_pos rfl
theorem nad_old {ad : Nat → Nat} {id q : Nat} (ho : nOld N0 X ad) (h1 : N0 ≤ id) (h2 : id < 1000) : nOld N0 X (nad ad id q) := fun j hj => (if_neg (by omega)).trans (ho j hj)
theorem nfree (id : Nat) (hid : N0 ≤ id ∧ id < 1000) (hf : (nfT id T && nfL id L && nfs id st) = true) {k' j' : Nat} {d : nD} (hdf : nfd id d = true) {pc' : Nat} (h : NN N0 X pc' L (nref id :: st) (T ++ [(id, d)]) k' j') {ad : Nat → Nat} {H : Heap} {locs : List Loc} {ls : Array Slot} {q : Nat} {e : va_E} (he : nE (xy X) ad d = e) (ho : nOld N0 X ad) (hP : va_P (xD X) gcl (nW (xy X) ad T ++ [(q, e)]) H) (hD : va_D (xA X) (nW (xy X) ad T ++ [(q, e)])) (hS : va_S (xA X) (xs X).heap H locs) (hl : lv_has ls (xn X) (L.map fun q => (q.1, nc ad q.2))) :
    W (xp X) (xl X) (xe X) (xR X) (xs X) (xm X) (xa X) (xb X) (xh X) (xc X) H locs k' j' (xQ X) (F0 (xm X) pc' ls (.ref q :: st.map (nc ad))) := by
  rw [Bool.and_eq_true, Bool.and_eq_true] at hf
  have hlow : nLow id ad (nad ad id q) := nad_low
  have eW : nW (xy X) (nad ad id q) (T ++ [(id, d)]) = nW (xy X) ad T ++ [(q, e)] := by
    have : nW (xy X) (nad ad id q) (T ++ [(id, d)]) = nW (xy X) (nad ad id q) T ++ [(nad ad id q id, nE (xy X) (nad ad id q) d)] := by
      unfold nW
      rw [List.map_append]
      rfl
    rw [this, nW_low hlow hf.1.1, nad_at, nE_low hlow hdf, he]
  have := h (nad ad id q) H locs ls (nad_old ho hid.1 hid.2) (by rw [eW]; exact hP) (by rw [eW]; exact hD) hS (by rw [nL_low hlow hf.1.2]; exact hl)
  rw [List.map_cons, ns_low hlow hf.2] at this
  have e2 : nc (nad ad id q) (nref id) = .ref q := by
    show Value.ref (nad ad id q id) = _
    rw [nad_at]
  rw [e2] at this
  exact this
theorem n_newi (C : nC cc own nL fr lo mc ms N0 T1 X) {n id : Nat} {x : Int} {k' j' : Nat} {T' : nT} (harr : Cond.arrayClass .int ∈ gTb) (hid : N0 ≤ id ∧ id < 1000) (hf : (nfT id T && nfL id L && nfs id st) = true) (hx : (n : Int) = x) (hn : n ≤ 100000) (hk : k + 1 = k') (hj : j + n = j') (hk2 : k' ≤ mc) (hj2 : j' ≤ ms) (hT' : T ++ [(id, .inl (0, (n, z0)))] = T') (hdg : decode cc pc = .ok (.newarray .int, 2)) (h : NN N0 X (pc + 2) L (nref id :: st) T' k' j') : NN N0 X pc L (nint x :: st) T k j := by
  intro ad H locs ls ho hP hD hS hl
  subst hx hk hj hT'
  obtain ⟨⟨c1, c2, c3, c4, c5⟩, c6, c7, c8, c9, c10, c11, c12, c13, c14, c15, c16, c17⟩ := C
  have hg : g32 (n : Int) := ⟨by omega, by omega⟩
  refine va_newa (atype := .int) (n := Int32.ofInt (n : Int)) (a0 := (n, .inl (fun _ => Int32.ofInt 0))) (N' := n) c1 c2 (c5 _ harr) rfl c14 hP hD hS c15 (fun cA => rfl) (fun z => by rw [show (0 : Int32) = Int32.ofInt 0 from rfl, glt hg g32_0] at z; omega) (by rw [gin hg]; exact Int.toNat_natCast n) (by show n * 4 ≤ _; omega) (by rw [c9]; exact hk2) (by rw [c10]; exact hj2) hdg fun q cA H1 hK1 hP1 hD1 hS1 => ?_
  have e0 : (xs X).vm.findClass "[I" = some (xy X).1 := (c14.2 0 _ rfl).2
  have e1 : (xs X).vm.findClass "[I" = some cA := (hK1.2 3 _ rfl).2
  have eA : cA = (xy X).1 := Option.some.inj (e1.symm.trans e0)
  subst eA
  exact nfree id hid hf rfl h rfl ho hP1 hD1 hS1 hl
theorem n_newb (C : nC cc own nL fr lo mc ms N0 T1 X) {n id : Nat} {x : Int} {k' j' : Nat} {T' : nT} (harr : Cond.arrayClass .boolean ∈ gTb) (hid : N0 ≤ id ∧ id < 1000) (hf : (nfT id T && nfL id L && nfs id st) = true) (hx : (n : Int) = x) (hn : n ≤ 100000) (hk : k + 1 = k') (hj : j + n = j') (hk2 : k' ≤ mc) (hj2 : j' ≤ ms) (hT' : T ++ [(id, .inl (1, (n, z0)))] = T') (hdg : decode cc pc = .ok (.newarray .boolean, 2)) (h : NN N0 X (pc + 2) L (nref id :: st) T' k' j') : NN N0 X pc L (nint x :: st) T k j := by
  intro ad H locs ls ho hP hD hS hl
  subst hx hk hj hT'
  obtain ⟨⟨c1, c2, c3, c4, c5⟩, c6, c7, c8, c9, c10, c11, c12, c13, c14, c15, c16, c17⟩ := C
  have hg : g32 (n : Int) := ⟨by omega, by omega⟩
  refine va_newa (atype := .boolean) (n := Int32.ofInt (n : Int)) (a0 := (n, .inl (fun _ => Int32.ofInt 0))) (N' := n) c1 c2 (c5 _ harr) rfl c14 hP hD hS c15 (fun cA => rfl) (fun z => by rw [show (0 : Int32) = Int32.ofInt 0 from rfl, glt hg g32_0] at z; omega) (by rw [gin hg]; exact Int.toNat_natCast n) (by show n * 1 ≤ _; omega) (by rw [c9]; exact hk2) (by rw [c10]; exact hj2) hdg fun q cA H1 hK1 hP1 hD1 hS1 => ?_
  have e0 : (xs X).vm.findClass "[Z" = some (xy X).2.1 := (c14.2 1 _ rfl).2
  have e1 : (xs X).vm.findClass "[Z" = some cA := (hK1.2 3 _ rfl).2
  have eA : cA = (xy X).2.1 := Option.some.inj (e1.symm.trans e0)
  subst eA
  exact nfree id hid hf rfl h rfl ho hP1 hD1 hS1 hl
theorem n_newl (C : nC cc own nL fr lo mc ms N0 T1 X) {n id : Nat} {x : Int} {k' j' : Nat} {T' : nT} (harr : Cond.arrayClass .long ∈ gTb) (hid : N0 ≤ id ∧ id < 1000) (hf : (nfT id T && nfL id L && nfs id st) = true) (hx : (n : Int) = x) (hn : n ≤ 100000) (hk : k + 1 = k') (hj : j + n = j') (hk2 : k' ≤ mc) (hj2 : j' ≤ ms) (hT' : T ++ [(id, .inl (2, (n, z0)))] = T') (hdg : decode cc pc = .ok (.newarray .long, 2)) (h : NN N0 X (pc + 2) L (nref id :: st) T' k' j') : NN N0 X pc L (nint x :: st) T k j := by
  intro ad H locs ls ho hP hD hS hl
  subst hx hk hj hT'
  obtain ⟨⟨c1, c2, c3, c4, c5⟩, c6, c7, c8, c9, c10, c11, c12, c13, c14, c15, c16, c17⟩ := C
  have hg : g32 (n : Int) := ⟨by omega, by omega⟩
  refine va_newa (atype := .long) (n := Int32.ofInt (n : Int)) (a0 := (n, .inr (.inl (fun _ => Int64.ofInt 0)))) (N' := n) c1 c2 (c5 _ harr) rfl c14 hP hD hS c15 (fun cA => rfl) (fun z => by rw [show (0 : Int32) = Int32.ofInt 0 from rfl, glt hg g32_0] at z; omega) (by rw [gin hg]; exact Int.toNat_natCast n) (by show n * 8 ≤ _; omega) (by rw [c9]; exact hk2) (by rw [c10]; exact hj2) hdg fun q cA H1 hK1 hP1 hD1 hS1 => ?_
  have e0 : (xs X).vm.findClass "[J" = some (xy X).2.2 := (c14.2 2 _ rfl).2
  have e1 : (xs X).vm.findClass "[J" = some cA := (hK1.2 3 _ rfl).2
  have eA : cA = (xy X).2.2 := Option.some.inj (e1.symm.trans e0)
  subst eA
  exact nfree id hid hf rfl h rfl ho hP1 hD1 hS1 hl
def nd0 (ty : FieldType) : nV := match ty with
  | .int => nint 0
  | .boolean => nint 0
  | .long => some (.inr (.inl 0))
  | _ => none
def nok (ty : FieldType) : Bool := match ty with
  | .int => true
  | .boolean => true
  | .long => true
  | .array _ => true
  | .object _ => true
  | _ => false
theorem nd0_ok {ty : FieldType} (ad : Nat → Nat) (h : nok ty = true) : defaultValue ty = nc ad (nd0 ty) := by
  cases ty <;> first | rfl | cases h
def nvs (ty0 : Nat → FieldType) (N : Nat) : List nV := (List.range N).map fun i => nd0 (ty0 i)
theorem n_new (C : nC cc own nL fr lo mc ms N0 T1 X) {ix ci id N : Nat} {cn : String} {Tt : u_T} {ty0 : Nat → FieldType} {k' j' : Nat} {T' : nT} (hc : gcl[ci]? = some (cn, Tt, N)) (hw : ∀ w ∈ u_ws cn Tt N, w ∈ gTb) (hty : ∀ a, a < N → parseFieldDescriptor (Tt a).2.2.1 = some (ty0 a)) (hok : ∀ a, a < N → nok (ty0 a) = true) (w1 : Cond.classLink own ix cn ∈ gTb) (w2 : Cond.instantiable cn N ∈ gTb) (w3 : Cond.initialized cn ∈ gTb)
    (hid : N0 ≤ id ∧ id < 1000) (hf : (nfT id T && nfL id L && nfs id st) = true) (hk : k + 1 = k') (hj : j + N = j') (hk2 : k' ≤ mc) (hj2 : j' ≤ ms) (hdf : nfd id (.inr (ci, nvs ty0 N)) = true) (hT' : T ++ [(id, .inr (ci, nvs ty0 N))] = T') (hdg : decode cc pc = .ok (.new ix, 3)) (h : NN N0 X (pc + 3) L (nref id :: st) T' k' j') : NN N0 X pc L st T k j := by
  intro ad H locs ls ho hP hD hS hl
  subst hk hj hT'
  obtain ⟨⟨c1, c2, c3, c4, c5⟩, c6, c7, c8, c9, c10, c11, c12, c13, c14, c15, c16, c17⟩ := C
  refine va_new (ci := ci) (fs := (nvs ty0 N).map (nc ad)) (C := cn) (T := Tt) (N := N) c1 c2 c5 hw ty0 hty c4 (c5 _ w1) (c5 _ w2) (c5 _ w3) c14 hP hD hS c15 hc (fun a ha => ?_) (by rw [c9]; exact hk2) (by rw [c10]; exact hj2) hdg fun q H1 hP1 hD1 hS1 => ?_
  · rw [nd0_ok ad (hok a ha)]
    unfold vp_V nvs
    rw [List.getD_eq_getElem?_getD, List.getElem?_map, List.getElem?_map, List.getElem?_range ha]
    rfl
  · exact nfree id hid hf hdf h rfl ho hP1 hD1 hS1 hl
theorem n_objInit (C : nC cc own nL fr lo mc ms N0 T1 X) {ix r : Nat} (w1 : Cond.methodLink own ix objectInit ∈ gTb) (w2 : Cond.instanceMethod objectInit ∈ gTb) (w3 : Cond.code objectInit ⟨#[0xb1]⟩ 1 none ∈ gTb) (hfr : 1 ≤ fr) (hlo : 12 ≤ lo) (hdg : decode cc pc = .ok (.invokespecial ix, 3)) (h : NN N0 X (pc + 3) L [] T k j) : NN N0 X pc L [nref r] T k j := by
  intro ad H locs ls ho hP hD hS hl
  obtain ⟨⟨c1, c2, c3, c4, c5⟩, c6, c7, c8, c9, c10, c11, c12, c13, c14, c15, c16, c17⟩ := C
  refine W.objInit c1 c2 c4 (c5 _ w1) (c5 _ w2) (c5 _ w3) rfl (by show ls.size = _; rw [c3, ← c6]; exact hl.1) rfl hdg (by rw [c7]; exact hfr) (by rw [c8]; exact hlo) ?_
  exact W.eq (g2 := F0 (xm X) (pc + 3) ls []) rfl (h ad H locs ls ho hP hD hS hl)
theorem n_vret (C : nC cc own nL fr lo mc ms N0 T1 X) (hdg : decode cc pc = .ok (.return_, 1)) : NN N0 X pc L [] T1 mc ms := by
  intro ad H locs ls ho hP hD hS hl
  obtain ⟨⟨c1, c2, c3, c4, c5⟩, c6, c7, c8, c9, c10, c11, c12, c13, c14, c15, c16, c17⟩ := C
  show W _ _ _ _ _ _ _ _ _ _ H locs mc ms (xQ X) _
  rw [c17]
  refine W.vret c1 c2 c11 (fun t ht hW => ?_) hS.2.2 hdg c12
  exact ⟨⟨ad, rfl, ho, by rw [ht]; exact hP, va_K.moved hW.alike c14, hD⟩, hS.F ht⟩
theorem n_widen {k' j' : Nat} (hk : k ≤ k') (hj : j ≤ j') (h : NN N0 X pc L st T k' j') : NN N0 X pc L st T k j := fun ad H locs ls ho hP hD hS hl => W.widen hk hj (h ad H locs ls ho hP hD hS hl)
theorem n_join {A0 : Nat → Prop} {D : va_G} {wr wc w1 : va_W} {H H1 : Heap} (hP : va_P D gcl (wr ++ wc) H) (hD : va_D A0 (wr ++ wc)) (hk : ∀ q : Nat, q < H.size → ¬ va_A wc H.size q → H1[q]? = H[q]?) (hF : ∀ q, va_A wc H.size q → A0 q) (hP1 : va_P D gcl w1 H1) (hD1 : va_D (va_A wc H.size) w1) : va_P D gcl (wr ++ w1) H1 ∧ va_D A0 (wr ++ w1) := by
  have left : ∀ (i : Nat) (q : Nat × va_E), wr[i]? = some q → (wr ++ wc)[i]? = some q := fun i q h => by
    rw [List.getElem?_append_left (List.getElem?_eq_some_iff.mp h).1]; exact h
  have right : ∀ (i : Nat) (q : Nat × va_E), wc[i]? = some q → (wr ++ wc)[wr.length + i]? = some q := fun i q h => by
    rw [List.getElem?_append_right (by omega), Nat.add_sub_cancel_left]; exact h
  have apart : ∀ (i : Nat) (q : Nat × va_E), wr[i]? = some q → q.1 < H.size ∧ ¬ va_A wc H.size q.1 := by
    intro i q hq
    have hl := (hP i q (left i q hq)).lt
    refine ⟨hl, fun h => ?_⟩
    rcases h with ⟨i2, e, h⟩ | h
    · have := hD.1 i (wr.length + i2) q (q.1, e) (left i q hq) (right i2 _ h) rfl
      have := (List.getElem?_eq_some_iff.mp hq).1
      omega
    · omega
  refine ⟨va_P.app (fun i q hq => ?_) hP1, va_D.app ⟨fun a b p q hp hq e => hD.1 a b p q (left a p hp) (left b q hq) e, fun a q hq => hD.2 a q (left a q hq)⟩ (hD1.weaken fun a q _ h => hF q.1 h) (fun a b x y hx hy hxy => ?_)⟩
  · obtain ⟨g1, g2⟩ := apart i q hq
    exact (hP i q (left i q hq)).kept (hk q.1 g1 g2)
  · exact (apart a x hx).2 (by rw [hxy]; exact hD1.2 b y hy)
theorem nblind {T0 : nT} {D : va_G} {cy : gY} {ad : Nat → Nat} {sz : Nat} {av : List Value} : FrameBlind (va_Pc av (nPre T0 D cy ad sz)) := by
  intro a U g mk h
  obtain ⟨h0, h1, h2, h3, h4, h5, h6⟩ := h
  have hv : U.vm.Alike (U.calling g mk a).vm := Vm.Alike.refl U.vm
  exact ⟨h0, h1, h2, va_K.moved hv h3, h4, va_Nw.same rfl rfl h5, va_Nw.same rfl rfl h6⟩
theorem ncatsum (ad : Nat → Nat) : ∀ st : List nV, ((st.map (nc ad)).map fun v => v.category).sum ≤ 2 * st.length
  | [] => Nat.le_refl _
  | v :: st => by
    have ih := ncatsum ad st
    have h : (nc ad v).category ≤ 2 := by
      rcases v with _ | x | x | r <;> simp [nc, gc, Value.category]
    simp only [List.map_cons, List.sum_cons, List.length_cons]
    omega
/-- what a call of a constructor wants: its link plain, or by the nest -/
def nLk (own : String) (ix : Nat) (y : MethodName) (X : gX) : Prop := Cond.methodLink own ix y ∈ gTb ∨ ∃ host, va_Nw (.methodLinkNest own ix y host) (xs X)
theorem n_init (C : nC cc own nL fr lo mc ms N0 T1 X) {ix mL fr' lo' mc' ms' id : Nat} {y : MethodName} {bytes : ByteArray} {as st0 : List nV} {Tr Tn T' : nT} {d : nD} {k' j' : Nat} (hM : nCt y bytes mL fr' lo' mc' ms' (id + 1) (nref id :: as) [(id, d)] Tn) (hst0 : as.reverse ++ nref id :: st = st0) (hT : T = Tr ++ [(id, d)]) (hT' : Tr ++ Tn = T') (hl1 : nLk own ix y X) (w2 : Cond.instanceMethod y ∈ gTb) (w3 : Cond.initialized y.cls ∈ gTb) (w4 : Cond.code y bytes mL none ∈ gTb)
    (hy : y.cls ≠ "java/lang/invoke/MethodHandle" ∧ y.cls ≠ "java/lang/invoke/VarHandle" ∧ (parseMethodDescriptor y.desc).map (fun d => d.parameters.length) = some as.length) (hnm : y.name = "<init>") (hR : fr' + 1 ≤ fr ∧ 8 + (mL + 11) + lo' ≤ lo) (hlen : st.length ≤ 4) (hN : N0 ≤ id + 1) (hf : (nfT (id + 1) Tr && nfL (id + 1) L && nfs (id + 1) st) = true) (hk : k + mc' = k') (hj : j + ms' = j') (hk2 : k' ≤ mc) (hj2 : j' ≤ ms) (hdg : decode cc pc = .ok (.invokespecial ix, 3))
    (h : NN N0 X (pc + 3) L st T' k' j') : NN N0 X pc L st0 T k j := by
  intro ad H locs ls ho hP hD hS hl
  subst hT hT' hk hj hst0
  rw [Bool.and_eq_true, Bool.and_eq_true] at hf
  obtain ⟨⟨c1, c2, c3, c4, c5⟩, c6, c7, c8, c9, c10, c11, c12, c13, c14, c15, c16, c17⟩ := C
  have eW : nW (xy X) ad (Tr ++ [(id, d)]) = nW (xy X) ad Tr ++ nW (xy X) ad [(id, d)] := by
    unfold nW
    rw [List.map_append]
  rw [eW] at hP hD
  have hF : ∀ q, va_A (nW (xy X) ad [(id, d)]) H.size q → xA X q := by
    intro q hq
    rcases hq with ⟨i, e, h1⟩ | h1
    · exact hD.2 ((nW (xy X) ad Tr).length + i) (q, e) (by rw [List.getElem?_append_right (by omega), Nat.add_sub_cancel_left]; exact h1)
    · exact c15 q (Nat.le_trans hS.1 h1)
  have hPc : va_P (xD X) gcl (nW (xy X) ad [(id, d)]) H := fun i q hq => hP ((nW (xy X) ad Tr).length + i) q (by rw [List.getElem?_append_right (by omega), Nat.add_sub_cancel_left]; exact hq)
  have hDc : va_D (fun _ => True) (nW (xy X) ad [(id, d)]) := by
    refine ⟨fun a b p q hp hq _ => ?_, fun _ _ _ => trivial⟩
    have := (List.getElem?_eq_some_iff.mp hp).1
    have := (List.getElem?_eq_some_iff.mp hq).1
    simp [nW] at *
    omega
  have pre : PreS (xs X) H (va_Pc ((nref id :: as).map (nc ad)) (nPre [(id, d)] (xD X) (xy X) ad H.size)) (.ref (ad id) :: as.map (nc ad)) :=
    ⟨nblind, fun U hU hW => ⟨rfl, by rw [hU], by rw [hU]; exact hPc, va_K.moved hW.alike c14, hDc, c16.1.warmM hW, c16.2.warmM hW⟩⟩
  have run : va_Run (xp X) (xl X) (xe X) (xR X) (xs X) (xm X) (xa X) (xb X) (xh X) (xc X) H locs k j mc' ms' (F0 (xm X) pc ls ((as.reverse ++ nref id :: st).map (nc ad))) (st.map (nc ad)) (nPost (id + 1) Tn (xD X) (xy X) ad (va_A (nW (xy X) ad [(id, d)]) H.size) (Value.ref (ad id) :: as.map (nc ad)).toArray) (va_A (nW (xy X) ad [(id, d)]) H.size) := by
    rcases hl1 with w1 | ⟨host, w1⟩
    · exact va_runI (As := as.map (nc ad)) (rest := st.map (nc ad)) ⟨c1, c2, c3, c4, c5⟩ (hM (xl X) (xD X) (xy X) ad H.size) ⟨callB_of as.length c5 (ggoodW w4) rfl rfl rfl (c5 _ w3) (c5 _ w1) hy ⟨by rw [c7]; exact hR.1, by rw [c8]; exact hR.2⟩, hnm, c5 _ w2⟩ pre rfl (by rw [List.length_map]) (by show ls.size = nL; rw [← c6]; exact hl.1) (by simp [nref, nc, gc]) (lv_room (Nat.le_trans (ncatsum ad st) (by omega))) hdg ⟨by rw [c9]; exact hk2, by rw [c10]; exact hj2⟩
    · exact va_runIN (As := as.map (nc ad)) (rest := st.map (nc ad)) ⟨c1, c2, c3, c4, c5⟩ (hM (xl X) (xD X) (xy X) ad H.size) ⟨va_cnB as.length c5 (ggoodW w4) rfl rfl rfl w1 (c5 _ w3) hy ⟨by rw [c7]; exact hR.1, by rw [c8]; exact hR.2⟩, hnm, c5 _ w2⟩ pre rfl (by rw [List.length_map]) (by show ls.size = nL; rw [← c6]; exact hl.1) (by simp [nref, nc, gc]) (lv_room (Nat.le_trans (ncatsum ad st) (by omega))) hdg ⟨by rw [c9]; exact hk2, by rw [c10]; exact hj2⟩
  refine va_callv run hS (fun q _ h => hF q h) hF (fun u t H1 locs1 ht hvm hw hB hz1 hk1 hS1 => ?_)
  obtain ⟨hP1, hK1, hD1⟩ := hB
  rw [ht] at hP1
  obtain ⟨hP2, hD2⟩ := n_join hP hD hk1 hF hP1 hD1
  have hlow : nLow (id + 1) ad u := fun q hq => hw q (Or.inl hq)
  have eW2 : nW (xy X) u (Tr ++ Tn) = nW (xy X) ad Tr ++ nW (xy X) u Tn := by
    rw [← nW_low hlow hf.1.1]
    unfold nW
    rw [List.map_append]
  have := h u H1 locs1 ls (fun q hq => (hw q (by omega)).trans (ho q hq)) (by rw [eW2]; exact hP2) (by rw [eW2]; exact hD2) hS1 (by rw [nL_low hlow hf.1.2]; exact hl)
  rw [ns_low hlow hf.2] at this
  exact this
theorem n_loop {L : Int → List (Nat × nV)} {T : Int → nT} {hi : Int} (step : ∀ i, 0 ≤ i → i < hi → NN N0 X pc (L (i + 1)) [] (T (i + 1)) k j → NN N0 X pc (L i) [] (T i) k j) (fin : NN N0 X pc (L hi) [] (T hi) k j) : ∀ (n : Nat) (i : Int), 0 ≤ i → i ≤ hi → hi - i < n → NN N0 X pc (L i) [] (T i) k j
  | 0, i, h1, h2, h3 => by omega
  | n + 1, i, h1, h2, h3 => by
    by_cases c : i = hi
    · rw [c]; exact fin
    · exact step i h1 (by omega) (n_loop step fin n (i + 1) (by omega) (by omega) (by omega))
end NR
