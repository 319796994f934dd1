/-! the G layer: a side's memory as a function, cells at fixed numbers; a row an instruction, over it -/
abbrev gM : Type := Nat → Int → Int
abbrev gV : Type := Int ⊕ (Int ⊕ Nat)
abbrev gD : Type := (Nat × Nat) ⊕ (Nat × List (Option Nat))
abbrev gT : Type := List gD
abbrev gR : Type := gM × Int
abbrev gY : Type := ClassId × ClassId × ClassId
abbrev gO : Type := Option gR
def gTb : List Cond := lw_tbl.filter goodWord
theorem gTb_good {w : Cond} (h : w ∈ gTb) : goodWord w = true := (List.mem_filter.mp h).2
theorem gTb_lw {w : Cond} (h : w ∈ gTb) : w ∈ lw_tbl := (List.mem_filter.mp h).1
theorem gmem {w : Cond} (i : Nat) (h : lw_tbl[i]? = some w) (hg : goodWord w = true) : w ∈ gTb := List.mem_filter.mpr ⟨List.mem_of_getElem? h, hg⟩
theorem gsubs {ws : List Cond} (h : ws.all (fun w => decide (w ∈ gTb)) = true) : ∀ w ∈ ws, w ∈ gTb := fun w hw => of_decide_eq_true (List.all_eq_true.mp h w hw)
theorem gts {args : Array Value} {s : State} (h : ∀ w ∈ lw_tbl, w.before args s = true) : ∀ w ∈ gTb, w.before args s = true := fun w hw => h w (gTb_lw hw)
def gc (ad : Nat → Nat) (v : gV) : Value := match v with
  | .inl x => .int (Int32.ofInt x)
  | .inr (.inl x) => .long (Int64.ofInt x)
  | .inr (.inr k) => .ref (ad k)
def g32 (x : Int) : Prop := -2147483648 ≤ x ∧ x ≤ 2147483647
def g64 (x : Int) : Prop := -9223372036854775808 ≤ x ∧ x ≤ 9223372036854775807
def gok (v : gV) : Prop := match v with
  | .inl x => g32 x
  | .inr (.inl x) => g64 x
  | .inr (.inr _) => True
def gOk (st : List gV) : Prop := ∀ v ∈ st, gok v
def gOkL (L : List (Nat × gV)) : Prop := ∀ q ∈ L, gok q.2
def gU (σ : gM) (k : Nat) (i : Int) (v : Int) : gM := fun k' i' => if k' = k ∧ i' = i then v else σ k' i'
def gF (ad : Nat → Nat) (σ : gM) (k : Nat) (fl : List (Option Nat)) : List Value := fl.mapIdx fun j o => match o with
  | none => .int (Int32.ofInt (σ k (j : Int)))
  | some t => .ref (ad t)
def gE (cy : gY) (ad : Nat → Nat) (σ : gM) (k : Nat) (d : gD) : va_E := match d with
  | .inl (0, n) => .inl (cy.1, (n, .inl (fun j => Int32.ofInt (σ k (j : Int)))))
  | .inl (1, n) => .inl (cy.2.1, (n, .inl (fun j => Int32.ofInt (σ k (j : Int)))))
  | .inl (_, n) => .inl (cy.2.2, (n, .inr (.inl (fun j => Int64.ofInt (σ k (j : Int))))))
  | .inr (ci, fl) => .inr (ci, gF ad σ k fl)
def gW (ct : gT) (cy : gY) (ad : Nat → Nat) (σ : gM) : va_W := ct.mapIdx fun k d => (ad k, gE cy ad σ k d)
def gLong (ct : gT) (k : Nat) : Bool := match ct[k]? with
  | some (.inl (0, _)) => false
  | some (.inl (1, _)) => false
  | some (.inl _) => true
  | _ => false
def gIn (ct : gT) (σ : gM) : Prop := ∀ (k : Nat) (i : Int), (gLong ct k = false → g32 (σ k i)) ∧ g64 (σ k i)
def gtys (cy : gY) : List (ClassId × FieldType) := [(cy.1, .int), (cy.2.1, .boolean), (cy.2.2, .long)]
def gA (n : Nat) (ad : Nat → Nat) (sz : Nat) : Nat → Prop := fun q => (∃ k, k < n ∧ q = ad k) ∨ sz ≤ q
def gVP (i : Int) : Int := ([3, 5, 6, 7, 9, 10, 11, 12] : List Int).getD i.toNat 0
def gHR (i : Int) : Int := ([2, 1, 2, 1] : List Int).getD i.toNat 0
/-- the two static rows: at ad 1000 and ad 1001, never written -/
def gS (ad : Nat → Nat) (A : Nat → Prop) (U : State) (H : Heap) : Prop :=
  (va_Z "CellToObject$Cells" "VALUE_PLACES" "[I" (.ref (ad 1000)) A U H ∧ va_X (ad 1000) 8 (fun j => Int32.ofInt (gVP (j : Int))) U H ∧ ad 1000 < H.size ∧ ¬ A (ad 1000)) ∧
  (va_Z "CellToObject" "HIGHEST_RULE" "[I" (.ref (ad 1001)) A U H ∧ va_X (ad 1001) 4 (fun j => Int32.ofInt (gHR (j : Int))) U H ∧ ad 1001 < H.size ∧ ¬ A (ad 1001))
/-! the checks and binders of the functions -/
def ga (x : Int) (f : Int → gO) : gO := if -2147483648 ≤ x ∧ x ≤ 2147483647 then f x else none
def gal (x : Int) (f : Int → gO) : gO := if -9223372036854775808 ≤ x ∧ x ≤ 9223372036854775807 then f x else none
def gi (i n : Int) (o : gO) : gO := if 0 ≤ i ∧ i < n then o else none
def gb (x : Int) (o : gO) : gO := if 0 ≤ x ∧ x ≤ 1 then o else none
def gd (x y : Int) (o : gO) : gO := if 0 ≤ x ∧ 0 < y then o else none
def gv (x : Int) (f : Int → gO) : gO := f x
def gw (σ : gM) (k : Nat) (n i v : Int) (f : gM → gO) : gO := if 0 ≤ i ∧ i < n then f (gU σ k i v) else none
def gwb (σ : gM) (k : Nat) (n i v : Int) (f : gM → gO) : gO := if (0 ≤ i ∧ i < n) ∧ (0 ≤ v ∧ v ≤ 1) then f (gU σ k i v) else none
def gp (σ : gM) (k : Nat) (j v : Int) (f : gM → gO) : gO := f (gU σ k j v)
def gpb (σ : gM) (k : Nat) (j v : Int) (f : gM → gO) : gO := if 0 ≤ v ∧ v ≤ 1 then f (gU σ k j v) else none
def gk (o : gO) (K : gM → Int → gO) : gO := match o with
  | none => none
  | some q => K q.1 q.2
def gAnd (x y : Int) : Int := (Int32.ofInt x &&& Int32.ofInt y).toInt
def gOr (x y : Int) : Int := (Int32.ofInt x ||| Int32.ofInt y).toInt
def gXor (x y : Int) : Int := (Int32.ofInt x ^^^ Int32.ofInt y).toInt
def gShl (x y : Int) : Int := (Int32.ofInt x <<< (Int32.ofInt y &&& 31)).toInt
def gShr (x y : Int) : Int := (Int32.ofInt x >>> (Int32.ofInt y &&& 31)).toInt
def gUshr (x y : Int) : Int := ((Int32.ofInt x).toUInt32 >>> ((Int32.ofInt y).toUInt32 &&& Int32.toUInt32 31)).toInt32.toInt
def gl0 (body : (gM → gO) → gM → gO) : Nat → gM → gO
  | 0 => fun _ => none
  | n + 1 => fun σ => body (gl0 body n) σ
def gl1 (body : (gM → Int → gO) → gM → Int → gO) : Nat → gM → Int → gO
  | 0 => fun _ _ => none
  | n + 1 => fun σ a => body (gl1 body n) σ a
def gl2 (body : (gM → Int → Int → gO) → gM → Int → Int → gO) : Nat → gM → Int → Int → gO
  | 0 => fun _ _ _ => none
  | n + 1 => fun σ a b => body (gl2 body n) σ a b
def gl3 (body : (gM → Int → Int → Int → gO) → gM → Int → Int → Int → gO) : Nat → gM → Int → Int → Int → gO
  | 0 => fun _ _ _ _ => none
  | n + 1 => fun σ a b c => body (gl3 body n) σ a b c
def gl4 (body : (gM → Int → Int → Int → Int → gO) → gM → Int → Int → Int → Int → gO) : Nat → gM → Int → Int → Int → Int → gO
  | 0 => fun _ _ _ _ _ => none
  | n + 1 => fun σ a b c d => body (gl4 body n) σ a b c d
/-! plain facts -/
theorem g32_neg {n : Int} (h : g32 n) : -2 ^ 31 ≤ n ∧ n < 2 ^ 31 := ⟨h.1, Int.lt_of_le_of_lt h.2 (by decide)⟩
theorem gti {x : Int} (h : g32 x) : (Int32.ofInt x).toInt = x := Int32.toInt_ofInt_of_le (g32_neg h).1 (g32_neg h).2
theorem gtl {x : Int} (h : g64 x) : (Int64.ofInt x).toInt = x := Int64.toInt_ofInt_of_le h.1 (Int.lt_of_le_of_lt h.2 (by decide))
theorem gin {x : Int} (h : g32 x) : (Int32.ofInt x).toNatClampNeg = x.toNat := by
  show (Int32.ofInt x).toInt.toNat = _
  rw [gti h]
theorem gof (x : Int32) : Int32.ofInt x.toInt = x := Int32.ofInt_toInt x
theorem g32_to (x : Int32) : g32 x.toInt := ⟨x.minValue_le_toInt, x.toInt_le⟩
theorem g32_64 {x : Int} (h : g32 x) : g64 x := ⟨by have := h.1; omega, by have := h.2; omega⟩
theorem glt {x y : Int} (hx : g32 x) (hy : g32 y) : Int32.ofInt x < Int32.ofInt y ↔ x < y := by
  rw [Int32.lt_iff_toInt_lt, gti hx, gti hy]
theorem gle {x y : Int} (hx : g32 x) (hy : g32 y) : Int32.ofInt x ≤ Int32.ofInt y ↔ x ≤ y := by
  rw [Int32.le_iff_toInt_le, gti hx, gti hy]
theorem geq {x y : Int} (hx : g32 x) (hy : g32 y) : Int32.ofInt x = Int32.ofInt y ↔ x = y := by
  rw [← Int32.toInt_inj, gti hx, gti hy]
theorem g32_0 : g32 0 := ⟨by decide, by decide⟩
theorem g32_1 {v : Int} (h : 0 ≤ v ∧ v ≤ 1) : g32 v := ⟨by omega, by omega⟩
theorem gvp {i : Int} {n : Nat} (h : g32 i) (h0 : 0 ≤ i) (h1 : i < (n : Int)) : vp_in (Int32.ofInt i) n := by
  intro q
  rcases q with q | q
  · rw [show (0 : Int32) = Int32.ofInt 0 from rfl, glt h g32_0] at q
    omega
  · rw [gin h] at q
    omega
theorem gOk_cons {v : gV} {st : List gV} (h : gok v) (hs : gOk st) : gOk (v :: st) := fun w hw => by
  rcases List.mem_cons.mp hw with rfl | hw
  · exact h
  · exact hs w hw
theorem gOk_hd {v : gV} {st : List gV} (h : gOk (v :: st)) : gok v := h v List.mem_cons_self
theorem gOk_tl {v : gV} {st : List gV} (h : gOk (v :: st)) : gOk st := fun w hw => h w (List.mem_cons_of_mem _ hw)
theorem gOkL_at {L : List (Nat × gV)} (h : gOkL L) {k i : Nat} {v : gV} (hk : L[k]? = some (i, v)) : gok v := h (i, v) (List.mem_of_getElem? hk)
theorem gW_get {ct : gT} {cy : gY} {ad : Nat → Nat} {σ : gM} {k : Nat} {d : gD} (h : ct[k]? = some d) : (gW ct cy ad σ)[k]? = some (ad k, gE cy ad σ k d) := by
  simp [gW, h]
theorem gE_congr {cy : gY} {ad : Nat → Nat} {σ σ' : gM} {k : Nat} (d : gD) (h : ∀ i, σ k i = σ' k i) : gE cy ad σ k d = gE cy ad σ' k d := by
  unfold gE gF
  simp only [h]
theorem gU_ne {σ : gM} {k k' : Nat} {i i' v : Int} (h : k' ≠ k) : gU σ k i v k' i' = σ k' i' := by simp [gU, h]
theorem gU_self {σ : gM} {k : Nat} {i v : Int} : gU σ k i v k i = v := by simp [gU]
theorem gW_set {ct : gT} {cy : gY} {ad : Nat → Nat} {σ : gM} {k : Nat} {d : gD} {i v : Int} {e : va_E} (h : ct[k]? = some d) (he : gE cy ad (gU σ k i v) k d = e) : (gW ct cy ad σ).set k (ad k, e) = gW ct cy ad (gU σ k i v) := by
  apply List.ext_getElem?
  intro j
  rw [List.getElem?_set]
  have hlt : k < (gW ct cy ad σ).length := (List.getElem?_eq_some_iff.mp (gW_get (cy := cy) (ad := ad) (σ := σ) h)).1
  by_cases hj : k = j
  · subst hj
    rw [if_pos rfl, if_pos hlt, gW_get h, he]
  · rw [if_neg hj]
    cases hd : ct[j]? with
    | none => simp [gW, hd]
    | some d' =>
      rw [gW_get hd, gW_get hd]
      congr 2
      exact gE_congr d' fun i' => (gU_ne (fun q => hj q.symm)).symm
theorem gW_len (ct : gT) (cy : gY) (ad : Nat → Nat) (σ : gM) : (gW ct cy ad σ).length = ct.length := by simp [gW]
theorem gW_ad {ct : gT} {cy : gY} {ad : Nat → Nat} {σ : gM} {k : Nat} {q : Nat × va_E} (h : (gW ct cy ad σ)[k]? = some q) : k < ct.length ∧ q.1 = ad k := by
  have h1 := (List.getElem?_eq_some_iff.mp h).1
  rw [gW_len] at h1
  refine ⟨h1, ?_⟩
  rw [gW_get (List.getElem?_eq_getElem h1)] at h
  rw [← Option.some.inj h]
theorem gW_D {A : Nat → Prop} {ct : gT} {cy : gY} {ad : Nat → Nat} {σ σ' : gM} (h : va_D A (gW ct cy ad σ)) : va_D A (gW ct cy ad σ') := by
  have g : ∀ (k : Nat) (q : Nat × va_E), (gW ct cy ad σ')[k]? = some q → ∃ q' : Nat × va_E, (gW ct cy ad σ)[k]? = some q' ∧ q'.1 = q.1 := fun k q hq => by
    obtain ⟨h1, h2⟩ := gW_ad hq
    exact ⟨_, gW_get (List.getElem?_eq_getElem h1), h2.symm⟩
  refine ⟨fun i j p q hp hq e => ?_, fun k q hq => ?_⟩
  · obtain ⟨p', hp', ep⟩ := g i p hp
    obtain ⟨q', hq', eq⟩ := g j q hq
    exact h.1 i j p' q' hp' hq' (by rw [ep, eq, e])
  · obtain ⟨q', hq', eq⟩ := g k q hq
    rw [← eq]
    exact h.2 k q' hq'
theorem gW_DA {ct : gT} {cy : gY} {ad : Nat → Nat} {σ : gM} {sz : Nat} (h : va_D (fun _ => True) (gW ct cy ad σ)) : va_D (gA ct.length ad sz) (gW ct cy ad σ) :=
  ⟨h.1, fun k q hq => Or.inl ⟨k, (gW_ad hq).1, (gW_ad hq).2⟩⟩
theorem gIn_U {ct : gT} {σ : gM} {k : Nat} {i v : Int} (h : gIn ct σ) (hv : gLong ct k = false → g32 v) (h64 : g64 v) : gIn ct (gU σ k i v) := by
  intro k' i'
  by_cases hq : k' = k ∧ i' = i
  · have e : gU σ k i v k' i' = v := by simp [gU, hq]
    rw [e]
    exact ⟨fun h => hv (hq.1 ▸ h), h64⟩
  · have e : gU σ k i v k' i' = σ k' i' := by simp [gU, hq]
    rw [e]
    exact h k' i'
theorem gS_call {n : Nat} {ad : Nat → Nat} {s U : State} {H : Heap} {locs : List Loc} (hs : gS ad (gA n ad s.heap.size) s s.heap) (hS : va_S (gA n ad s.heap.size) s.heap H locs) (hvm : s.vm.Alike U.vm) : gS ad (gA n ad H.size) U H := by
  have hsub : ∀ q, gA n ad H.size q → gA n ad s.heap.size q := fun q h => h.imp id (Nat.le_trans hS.1)
  have hk : ∀ a : Nat, a < s.heap.size → ¬ gA n ad s.heap.size a → H[a]? = s.heap[a]? := hS.2.1
  obtain ⟨⟨a1, a2, a3, a4⟩, b1, b2, b3, b4⟩ := hs
  exact ⟨⟨((a1.kept hk).moved hvm).narrow hsub, (a2.kept (hk _ a3 a4)).moved hvm, Nat.lt_of_lt_of_le a3 hS.1, fun q => a4 (hsub _ q)⟩, ((b1.kept hk).moved hvm).narrow hsub, (b2.kept (hk _ b3 b4)).moved hvm, Nat.lt_of_lt_of_le b3 hS.1, fun q => b4 (hsub _ q)⟩
