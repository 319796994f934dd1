/-! rows: branches, fields, arrays, calls, ends -/
section GR2
variable {ct : gT} {cc : ByteArray} {own : String} {nL fr lo : Nat} {ret : Option FieldType} {X : gX} {pc : Nat} {L : List (Nat × gV)} {st : List gV} {σ : gM}
theorem g_icmp_eq (C : gC ct cc own nL fr lo ret X) {x y : Int} {off : Int} {tgt : Nat} {o1 o2 : gO} (hdg : decode cc pc = .ok (.if_icmp .eq off, 3)) (ht : (pc : Int) + off = (tgt : Int)) (k1 : GG ct X tgt L st σ o1) (k2 : GG ct X (pc + 3) L st σ o2) : GG ct X pc L (.inl y :: .inl x :: st) σ (if x = y then o1 else o2) := by
  intro ho hL hst hin H locs ls hP hD hS hl
  have hy : g32 y := gOk_hd hst
  have hx : g32 x := gOk_hd (gOk_tl hst)
  have h2 := gOk_tl (gOk_tl hst)
  refine lv_icmp_eq (x := Int32.ofInt x) (y := Int32.ofInt y) C.1.1 C.1.2.1 hdg ht (fun q => ?_) (fun q => ?_)
  · rw [geq hx hy] at q
    exact k1 (by rw [if_pos q] at ho; exact ho) hL h2 hin H locs ls hP hD hS hl
  · rw [geq hx hy] at q
    exact k2 (by rw [if_neg q] at ho; exact ho) hL h2 hin H locs ls hP hD hS hl
theorem g_icmp_ne (C : gC ct cc own nL fr lo ret X) {x y : Int} {off : Int} {tgt : Nat} {o1 o2 : gO} (hdg : decode cc pc = .ok (.if_icmp .ne off, 3)) (ht : (pc : Int) + off = (tgt : Int)) (k1 : GG ct X tgt L st σ o1) (k2 : GG ct X (pc + 3) L st σ o2) : GG ct X pc L (.inl y :: .inl x :: st) σ (if x = y then o2 else o1) := by
  intro ho hL hst hin H locs ls hP hD hS hl
  have hy : g32 y := gOk_hd hst
  have hx : g32 x := gOk_hd (gOk_tl hst)
  have h2 := gOk_tl (gOk_tl hst)
  refine lv_icmp_ne (x := Int32.ofInt x) (y := Int32.ofInt y) C.1.1 C.1.2.1 hdg ht (fun q => ?_) (fun q => ?_)
  · rw [geq hx hy] at q
    exact k1 (by rw [if_neg q] at ho; exact ho) hL h2 hin H locs ls hP hD hS hl
  · rw [geq hx hy] at q
    exact k2 (by rw [if_pos q] at ho; exact ho) hL h2 hin H locs ls hP hD hS hl
theorem g_icmp_lt (C : gC ct cc own nL fr lo ret X) {x y : Int} {off : Int} {tgt : Nat} {o1 o2 : gO} (hdg : decode cc pc = .ok (.if_icmp .lt off, 3)) (ht : (pc : Int) + off = (tgt : Int)) (k1 : GG ct X tgt L st σ o1) (k2 : GG ct X (pc + 3) L st σ o2) : GG ct X pc L (.inl y :: .inl x :: st) σ (if x < y then o1 else o2) := by
  intro ho hL hst hin H locs ls hP hD hS hl
  have hy : g32 y := gOk_hd hst
  have hx : g32 x := gOk_hd (gOk_tl hst)
  have h2 := gOk_tl (gOk_tl hst)
  refine lv_icmp_lt (x := Int32.ofInt x) (y := Int32.ofInt y) C.1.1 C.1.2.1 hdg ht (fun q => ?_) (fun q => ?_)
  · rw [glt hx hy] at q
    exact k1 (by rw [if_pos q] at ho; exact ho) hL h2 hin H locs ls hP hD hS hl
  · rw [glt hx hy] at q
    exact k2 (by rw [if_neg q] at ho; exact ho) hL h2 hin H locs ls hP hD hS hl
theorem g_icmp_ge (C : gC ct cc own nL fr lo ret X) {x y : Int} {off : Int} {tgt : Nat} {o1 o2 : gO} (hdg : decode cc pc = .ok (.if_icmp .ge off, 3)) (ht : (pc : Int) + off = (tgt : Int)) (k1 : GG ct X tgt L st σ o1) (k2 : GG ct X (pc + 3) L st σ o2) : GG ct X pc L (.inl y :: .inl x :: st) σ (if x < y then o2 else o1) := by
  intro ho hL hst hin H locs ls hP hD hS hl
  have hy : g32 y := gOk_hd hst
  have hx : g32 x := gOk_hd (gOk_tl hst)
  have h2 := gOk_tl (gOk_tl hst)
  refine lv_icmp_ge (x := Int32.ofInt x) (y := Int32.ofInt y) C.1.1 C.1.2.1 hdg ht (fun q => ?_) (fun q => ?_)
  · rw [gle hy hx] at q
    exact k1 (by rw [if_neg (Int.not_lt.mpr q)] at ho; exact ho) hL h2 hin H locs ls hP hD hS hl
  · rw [gle hy hx] at q
    exact k2 (by rw [if_pos (Int.not_le.mp q)] at ho; exact ho) hL h2 hin H locs ls hP hD hS hl
theorem g_icmp_gt (C : gC ct cc own nL fr lo ret X) {x y : Int} {off : Int} {tgt : Nat} {o1 o2 : gO} (hdg : decode cc pc = .ok (.if_icmp .gt off, 3)) (ht : (pc : Int) + off = (tgt : Int)) (k1 : GG ct X tgt L st σ o1) (k2 : GG ct X (pc + 3) L st σ o2) : GG ct X pc L (.inl y :: .inl x :: st) σ (if y < x then o1 else o2) := by
  intro ho hL hst hin H locs ls hP hD hS hl
  have hy : g32 y := gOk_hd hst
  have hx : g32 x := gOk_hd (gOk_tl hst)
  have h2 := gOk_tl (gOk_tl hst)
  refine lv_icmp_gt (x := Int32.ofInt x) (y := Int32.ofInt y) C.1.1 C.1.2.1 hdg ht (fun q => ?_) (fun q => ?_)
  · have q := (glt hy hx).mp q
    exact k1 (by rw [if_pos q] at ho; exact ho) hL h2 hin H locs ls hP hD hS hl
  · have q := fun z => q ((glt hy hx).mpr z)
    exact k2 (by rw [if_neg q] at ho; exact ho) hL h2 hin H locs ls hP hD hS hl
theorem g_icmp_le (C : gC ct cc own nL fr lo ret X) {x y : Int} {off : Int} {tgt : Nat} {o1 o2 : gO} (hdg : decode cc pc = .ok (.if_icmp .le off, 3)) (ht : (pc : Int) + off = (tgt : Int)) (k1 : GG ct X tgt L st σ o1) (k2 : GG ct X (pc + 3) L st σ o2) : GG ct X pc L (.inl y :: .inl x :: st) σ (if y < x then o2 else o1) := by
  intro ho hL hst hin H locs ls hP hD hS hl
  have hy : g32 y := gOk_hd hst
  have hx : g32 x := gOk_hd (gOk_tl hst)
  have h2 := gOk_tl (gOk_tl hst)
  refine lv_icmp_le (x := Int32.ofInt x) (y := Int32.ofInt y) C.1.1 C.1.2.1 hdg ht (fun q => ?_) (fun q => ?_)
  · have q := (gle hx hy).mp q
    exact k1 (by rw [if_neg (Int.not_lt.mpr q)] at ho; exact ho) hL h2 hin H locs ls hP hD hS hl
  · have q := fun z => q ((gle hx hy).mpr z)
    exact k2 (by rw [if_pos (Int.not_le.mp q)] at ho; exact ho) hL h2 hin H locs ls hP hD hS hl
theorem g_if_eq (C : gC ct cc own nL fr lo ret X) {x : Int} {off : Int} {tgt : Nat} {o1 o2 : gO} (hdg : decode cc pc = .ok (.ifCond .eq off, 3)) (ht : (pc : Int) + off = (tgt : Int)) (k1 : GG ct X tgt L st σ o1) (k2 : GG ct X (pc + 3) L st σ o2) : GG ct X pc L (.inl x :: st) σ (if x = 0 then o1 else o2) := by
  intro ho hL hst hin H locs ls hP hD hS hl
  have hx : g32 x := gOk_hd hst
  refine lv_if_eq (x := Int32.ofInt x) C.1.1 C.1.2.1 hdg ht (fun q => ?_) (fun q => ?_)
  · have q := (geq hx g32_0).mp q
    exact k1 (by rw [if_pos q] at ho; exact ho) hL (gOk_tl hst) hin H locs ls hP hD hS hl
  · have q := fun z => q ((geq hx g32_0).mpr z)
    exact k2 (by rw [if_neg q] at ho; exact ho) hL (gOk_tl hst) hin H locs ls hP hD hS hl
theorem g_if_ne (C : gC ct cc own nL fr lo ret X) {x : Int} {off : Int} {tgt : Nat} {o1 o2 : gO} (hdg : decode cc pc = .ok (.ifCond .ne off, 3)) (ht : (pc : Int) + off = (tgt : Int)) (k1 : GG ct X tgt L st σ o1) (k2 : GG ct X (pc + 3) L st σ o2) : GG ct X pc L (.inl x :: st) σ (if x = 0 then o2 else o1) := by
  intro ho hL hst hin H locs ls hP hD hS hl
  have hx : g32 x := gOk_hd hst
  refine lv_if_ne (x := Int32.ofInt x) C.1.1 C.1.2.1 hdg ht (fun q => ?_) (fun q => ?_)
  · have q := fun z => q ((geq hx g32_0).mpr z)
    exact k1 (by rw [if_neg q] at ho; exact ho) hL (gOk_tl hst) hin H locs ls hP hD hS hl
  · have q := (geq hx g32_0).mp q
    exact k2 (by rw [if_pos q] at ho; exact ho) hL (gOk_tl hst) hin H locs ls hP hD hS hl
theorem g_if_lt (C : gC ct cc own nL fr lo ret X) {x : Int} {off : Int} {tgt : Nat} {o1 o2 : gO} (hdg : decode cc pc = .ok (.ifCond .lt off, 3)) (ht : (pc : Int) + off = (tgt : Int)) (k1 : GG ct X tgt L st σ o1) (k2 : GG ct X (pc + 3) L st σ o2) : GG ct X pc L (.inl x :: st) σ (if x < 0 then o1 else o2) := by
  intro ho hL hst hin H locs ls hP hD hS hl
  have hx : g32 x := gOk_hd hst
  refine lv_if_lt (x := Int32.ofInt x) C.1.1 C.1.2.1 hdg ht (fun q => ?_) (fun q => ?_)
  · have q := (glt hx g32_0).mp q
    exact k1 (by rw [if_pos q] at ho; exact ho) hL (gOk_tl hst) hin H locs ls hP hD hS hl
  · have q := fun z => q ((glt hx g32_0).mpr z)
    exact k2 (by rw [if_neg q] at ho; exact ho) hL (gOk_tl hst) hin H locs ls hP hD hS hl
theorem g_if_ge (C : gC ct cc own nL fr lo ret X) {x : Int} {off : Int} {tgt : Nat} {o1 o2 : gO} (hdg : decode cc pc = .ok (.ifCond .ge off, 3)) (ht : (pc : Int) + off = (tgt : Int)) (k1 : GG ct X tgt L st σ o1) (k2 : GG ct X (pc + 3) L st σ o2) : GG ct X pc L (.inl x :: st) σ (if x < 0 then o2 else o1) := by
  intro ho hL hst hin H locs ls hP hD hS hl
  have hx : g32 x := gOk_hd hst
  refine lv_if_ge (x := Int32.ofInt x) C.1.1 C.1.2.1 hdg ht (fun q => ?_) (fun q => ?_)
  · have q := (gle g32_0 hx).mp q
    exact k1 (by rw [if_neg (Int.not_lt.mpr q)] at ho; exact ho) hL (gOk_tl hst) hin H locs ls hP hD hS hl
  · have q := fun z => q ((gle g32_0 hx).mpr z)
    exact k2 (by rw [if_pos (Int.not_le.mp q)] at ho; exact ho) hL (gOk_tl hst) hin H locs ls hP hD hS hl
theorem g_if_gt (C : gC ct cc own nL fr lo ret X) {x : Int} {off : Int} {tgt : Nat} {o1 o2 : gO} (hdg : decode cc pc = .ok (.ifCond .gt off, 3)) (ht : (pc : Int) + off = (tgt : Int)) (k1 : GG ct X tgt L st σ o1) (k2 : GG ct X (pc + 3) L st σ o2) : GG ct X pc L (.inl x :: st) σ (if 0 < x then o1 else o2) := by
  intro ho hL hst hin H locs ls hP hD hS hl
  have hx : g32 x := gOk_hd hst
  refine lv_if_gt (x := Int32.ofInt x) C.1.1 C.1.2.1 hdg ht (fun q => ?_) (fun q => ?_)
  · have q := (glt g32_0 hx).mp q
    exact k1 (by rw [if_pos q] at ho; exact ho) hL (gOk_tl hst) hin H locs ls hP hD hS hl
  · have q := fun z => q ((glt g32_0 hx).mpr z)
    exact k2 (by rw [if_neg q] at ho; exact ho) hL (gOk_tl hst) hin H locs ls hP hD hS hl
theorem g_if_le (C : gC ct cc own nL fr lo ret X) {x : Int} {off : Int} {tgt : Nat} {o1 o2 : gO} (hdg : decode cc pc = .ok (.ifCond .le off, 3)) (ht : (pc : Int) + off = (tgt : Int)) (k1 : GG ct X tgt L st σ o1) (k2 : GG ct X (pc + 3) L st σ o2) : GG ct X pc L (.inl x :: st) σ (if 0 < x then o2 else o1) := by
  intro ho hL hst hin H locs ls hP hD hS hl
  have hx : g32 x := gOk_hd hst
  refine lv_if_le (x := Int32.ofInt x) C.1.1 C.1.2.1 hdg ht (fun q => ?_) (fun q => ?_)
  · have q := (gle hx g32_0).mp q
    exact k1 (by rw [if_neg (Int.not_lt.mpr q)] at ho; exact ho) hL (gOk_tl hst) hin H locs ls hP hD hS hl
  · have q := fun z => q ((gle hx g32_0).mpr z)
    exact k2 (by rw [if_pos (Int.not_le.mp q)] at ho; exact ho) hL (gOk_tl hst) hin H locs ls hP hD hS hl
theorem g_tabIn (C : gC ct cc own nL fr lo ret X) {x v : Int} {dflt lw hi off : Int} {offs : Array Int} {len tgt : Nat} {o : gO} (hdg : decode cc pc = .ok (.tableswitch dflt lw hi offs, len)) (hx : x = v) (h32 : g32 v) (h1 : ¬ v < lw) (h2 : ¬ hi < v) (hof : offs[(v - lw).toNat]? = some off) (ht : (pc : Int) + off = (tgt : Int)) (k : GG ct X tgt L st σ o) : GG ct X pc L (.inl x :: st) σ o := by
  intro ho hL hst hin H locs ls hP hD hS hl
  subst hx
  exact lv_tableIn (x := Int32.ofInt x) C.1.1 C.1.2.1 hdg (by rw [gti h32]; exact h1) (by rw [gti h32]; exact h2) (by rw [gti h32]; exact hof) ht (k ho hL (gOk_tl hst) hin H locs ls hP hD hS hl)
theorem g_tabOut (C : gC ct cc own nL fr lo ret X) {x : Int} {dflt lw hi : Int} {offs : Array Int} {len tgt : Nat} {o : gO} (hdg : decode cc pc = .ok (.tableswitch dflt lw hi offs, len)) (h : x < lw ∨ hi < x) (ht : (pc : Int) + dflt = (tgt : Int)) (k : GG ct X tgt L st σ o) : GG ct X pc L (.inl x :: st) σ o := by
  intro ho hL hst hin H locs ls hP hD hS hl
  have hx : g32 x := gOk_hd hst
  exact lv_tableOut (x := Int32.ofInt x) C.1.1 C.1.2.1 hdg (by rw [gti hx]; exact h) ht (k ho hL (gOk_tl hst) hin H locs ls hP hD hS hl)
theorem g_look (C : gC ct cc own nL fr lo ret X) {x : Int} {dflt off : Int} {ps : Array (Int × Int)} {len tgt : Nat} {o : gO} (hdg : decode cc pc = .ok (.lookupswitch dflt ps, len)) (hp : (ps.toList.zip (ps.toList.drop 1)).all (fun (a, next) => a.1 < next.1) = true) (hof : Op.lookupswitch.offset ps.toList dflt x = off) (ht : (pc : Int) + off = (tgt : Int)) (k : GG ct X tgt L st σ o) : GG ct X pc L (.inl x :: st) σ o := by
  intro ho hL hst hin H locs ls hP hD hS hl
  have hx : g32 x := gOk_hd hst
  exact lv_lookup (x := Int32.ofInt x) C.1.1 C.1.2.1 hdg hp (by rw [gti hx]; exact hof) ht (k ho hL (gOk_tl hst) hin H locs ls hP hD hS hl)
theorem gF_at {ad : Nat → Nat} {σ : gM} {k j : Nat} {fl : List (Option Nat)} {t : Option Nat} (h : fl[j]? = some t) : (gF ad σ k fl)[j]? = some (match t with
  | none => .int (Int32.ofInt (σ k (j : Int)))
  | some t => .ref (ad t)) := by
  simp [gF, h]
  cases t <;> rfl
theorem gF_set {ad : Nat → Nat} {σ : gM} {k j : Nat} {fl : List (Option Nat)} {v : Int} (h : fl[j]? = some none) : (gF ad σ k fl).set j (.int (Int32.ofInt v)) = gF ad (gU σ k (j : Int) v) k fl := by
  have hj : j < fl.length := (List.getElem?_eq_some_iff.mp h).1
  apply List.ext_getElem?
  intro i
  rw [List.getElem?_set]
  by_cases hij : j = i
  · subst hij
    rw [gF_at (σ := gU σ k (j : Int) v) h, if_pos rfl, if_pos (by simpa [gF] using hj), gU_self]
  · rw [if_neg hij]
    cases hf : fl[i]? with
    | none => simp [gF, hf]
    | some t =>
      rw [gF_at hf, gF_at hf]
      cases t with
      | none => simp [gU, show ¬ ((i : Int) = (j : Int)) from fun e => hij (by omega)]
      | some t => rfl
theorem g_get (C : gC ct cc own nL fr lo ret X) {o : gO} {q ix ci : Nat} {cn : String} {T : u_T} {N : Nat} {fl : List (Option Nat)} (j : Nat) {jz : Int} (hz : (j : Int) = jz) (hc : gcl[ci]? = some (cn, T, N)) (hw : ∀ w ∈ u_ws cn T N, w ∈ gTb) (hct : ct[q]? = some (.inr (ci, fl))) (hj : j < N) (hfl : fl[j]? = some none) {n d : String} (hT : T j = (cn, n, d, (T j).2.2.2)) (hlk : Cond.fieldLink own ix cn n d ∈ gTb) (hlg : gLong ct q = false) (hdg : decode cc pc = .ok (.getfield ix, 3))
    (k : GG ct X (pc + 3) L (.inl (σ q jz) :: st) σ o) : GG ct X pc L (.inr (.inr q) :: st) σ o := by
  subst hz
  intro ho hL hst hin H locs ls hP hD hS hl
  refine va_get (D := xD X) (v := .int (Int32.ofInt (σ q (j : Int)))) C.1.1 C.1.2.1 C.1.2.2.2.2 hw C.1.2.2.2.1 C.2.2.2.2.2.2.1 hP q (gW_get hct) hc j hj (C.1.2.2.2.2 _ (by rw [hT]; exact hlk)) (ref := cn) (fun _ h => by rw [hT] at h ⊢; exact h) (gF_at hfl) hdg ?_
  exact k ho hL (gOk_cons (show gok _ from (hin q j).1 hlg) (gOk_tl hst)) hin H locs ls hP hD hS hl
theorem g_getr (C : gC ct cc own nL fr lo ret X) {o : gO} {q ix ci t : Nat} {cn : String} {T : u_T} {N : Nat} {fl : List (Option Nat)} (j : Nat) (hc : gcl[ci]? = some (cn, T, N)) (hw : ∀ w ∈ u_ws cn T N, w ∈ gTb) (hct : ct[q]? = some (.inr (ci, fl))) (hj : j < N) (hfl : fl[j]? = some (some t)) {n d : String} (hT : T j = (cn, n, d, (T j).2.2.2)) (hlk : Cond.fieldLink own ix cn n d ∈ gTb) (hdg : decode cc pc = .ok (.getfield ix, 3))
    (k : GG ct X (pc + 3) L (.inr (.inr t) :: st) σ o) : GG ct X pc L (.inr (.inr q) :: st) σ o := by
  intro ho hL hst hin H locs ls hP hD hS hl
  refine va_get (D := xD X) (v := .ref (xd X t)) C.1.1 C.1.2.1 C.1.2.2.2.2 hw C.1.2.2.2.1 C.2.2.2.2.2.2.1 hP q (gW_get hct) hc j hj (C.1.2.2.2.2 _ (by rw [hT]; exact hlk)) (ref := cn) (fun _ h => by rw [hT] at h ⊢; exact h) (gF_at hfl) hdg ?_
  exact k ho hL (gOk_cons trivial (gOk_tl hst)) hin H locs ls hP hD hS hl
theorem g_putI (C : gC ct cc own nL fr lo ret X) {f : gM → gO} {q ix ci : Nat} {cn : String} {T : u_T} {ty0 : Nat → FieldType} {N : Nat} {fl : List (Option Nat)} {v : Int} (j : Nat) {jz : Int} (hz : (j : Int) = jz) (hc : gcl[ci]? = some (cn, T, N)) (hw : ∀ w ∈ u_ws cn T N, w ∈ gTb) (hty : ∀ k, k < N → parseFieldDescriptor (T k).2.2.1 = some (ty0 k)) (hnm : ∀ a, a < N → ∀ b, b < N → a ≠ b → (T a).2.1 ≠ (T b).2.1) (hct : ct[q]? = some (.inr (ci, fl))) (hj : j < N) (hfl : fl[j]? = some none) {n : String} (hT : T j = (cn, n, "I", false)) (hlk : Cond.fieldLink own ix cn n "I" ∈ gTb) (hdg : decode cc pc = .ok (.putfield ix, 3))
    (k : ∀ σ', GG ct X (pc + 3) L st σ' (f σ')) : GG ct X pc L (.inl v :: .inr (.inr q) :: st) σ (gp σ q jz v f) := by
  subst hz
  intro ho hL hst hin H locs ls hP hD hS hl
  have hv : g32 v := gOk_hd hst
  refine va_put (D := xD X) (v := .int (Int32.ofInt v)) (ty := .int) C.1.1 C.1.2.1 C.1.2.2.2.2 hw ty0 hty hnm C.1.2.2.2.1 C.2.2.2.2.2.2.1 hP hD hS q (gW_get hct) hc j hj (C.1.2.2.2.2 _ (by rw [hT]; exact hlk)) (ref := cn) (fun _ h => by rw [hT] at h ⊢; exact h) (by rw [hT]) (by rw [hT]; show parseFieldDescriptor "I" = some .int; decide +kernel) rfl rfl (by simpa [gF] using (List.getElem?_eq_some_iff.mp hfl).1) hdg fun H1 locs1 hP1 hD1 hS1 => ?_
  rw [gW_set (v := v) (i := (j : Int)) hct (by show (Sum.inr _ : va_E) = _; rw [gF_set hfl])] at hP1 hD1
  exact k _ ho hL (gOk_tl (gOk_tl hst)) (gIn_U hin (fun _ => hv) (g32_64 hv)) H1 locs1 ls hP1 hD1 hS1 hl
theorem gnarZ {v : Int} (h : 0 ≤ v ∧ v ≤ 1) : narrow .boolean (.int (Int32.ofInt v)) = .int (Int32.ofInt v) := by
  rcases (show v = 0 ∨ v = 1 by omega) with rfl | rfl <;> rfl
theorem g_putZ (C : gC ct cc own nL fr lo ret X) {f : gM → gO} {q ix ci : Nat} {cn : String} {T : u_T} {ty0 : Nat → FieldType} {N : Nat} {fl : List (Option Nat)} {v : Int} (j : Nat) {jz : Int} (hz : (j : Int) = jz) (hc : gcl[ci]? = some (cn, T, N)) (hw : ∀ w ∈ u_ws cn T N, w ∈ gTb) (hty : ∀ k, k < N → parseFieldDescriptor (T k).2.2.1 = some (ty0 k)) (hnm : ∀ a, a < N → ∀ b, b < N → a ≠ b → (T a).2.1 ≠ (T b).2.1) (hct : ct[q]? = some (.inr (ci, fl))) (hj : j < N) (hfl : fl[j]? = some none) {n : String} (hT : T j = (cn, n, "Z", false)) (hlk : Cond.fieldLink own ix cn n "Z" ∈ gTb) (hdg : decode cc pc = .ok (.putfield ix, 3))
    (k : ∀ σ', GG ct X (pc + 3) L st σ' (f σ')) : GG ct X pc L (.inl v :: .inr (.inr q) :: st) σ (gpb σ q jz v f) := by
  subst hz
  intro ho hL hst hin H locs ls hP hD hS hl
  obtain ⟨h1, ho⟩ := gpb_in ho
  have hv : g32 v := gOk_hd hst
  refine va_put (D := xD X) (v := .int (Int32.ofInt v)) (ty := .boolean) C.1.1 C.1.2.1 C.1.2.2.2.2 hw ty0 hty hnm C.1.2.2.2.1 C.2.2.2.2.2.2.1 hP hD hS q (gW_get hct) hc j hj (C.1.2.2.2.2 _ (by rw [hT]; exact hlk)) (ref := cn) (fun _ h => by rw [hT] at h ⊢; exact h) (by rw [hT]) (by rw [hT]; show parseFieldDescriptor "Z" = some .boolean; decide +kernel) (gnarZ h1) (by rcases (show v = 0 ∨ v = 1 by omega) with rfl | rfl <;> rfl) (by simpa [gF] using (List.getElem?_eq_some_iff.mp hfl).1) hdg fun H1 locs1 hP1 hD1 hS1 => ?_
  rw [gW_set (v := v) (i := (j : Int)) hct (by show (Sum.inr _ : va_E) = _; rw [gF_set hfl])] at hP1 hD1
  exact k _ ho hL (gOk_tl (gOk_tl hst)) (gIn_U hin (fun _ => hv) (g32_64 hv)) H1 locs1 ls hP1 hD1 hS1 hl
theorem gtn {i : Int} (h : 0 ≤ i) : ((i.toNat : Nat) : Int) = i := Int.toNat_of_nonneg h
theorem gupd {σ : gM} {q : Nat} {i v : Int} (h : 0 ≤ i) : (fun j : Nat => Int32.ofInt (gU σ q i v q (j : Int))) = upd (fun j => Int32.ofInt (σ q (j : Int))) i.toNat (Int32.ofInt v) := by
  funext j
  unfold upd gU
  by_cases hj : j = i.toNat
  · subst hj
    rw [if_pos rfl, if_pos ⟨rfl, gtn h⟩]
  · rw [if_neg hj, if_neg]
    rintro ⟨-, e⟩
    exact hj (by omega)
theorem gupdL {σ : gM} {q : Nat} {i v : Int} (h : 0 ≤ i) : (fun j : Nat => Int64.ofInt (gU σ q i v q (j : Int))) = vp_updL (fun j => Int64.ofInt (σ q (j : Int))) i.toNat (Int64.ofInt v) := by
  funext j
  unfold vp_updL gU
  by_cases hj : j = i.toNat
  · subst hj
    rw [if_pos rfl, if_pos ⟨rfl, gtn h⟩]
  · rw [if_neg hj, if_neg]
    rintro ⟨-, e⟩
    exact hj (by omega)
theorem g_iald (C : gC ct cc own nL fr lo ret X) {o : gO} {q n : Nat} {i N : Int} (hct : ct[q]? = some (.inl (0, n))) (hN : (n : Int) = N) (hlg : gLong ct q = false) (hdg : decode cc pc = .ok (.iaload, 1)) (k : GG ct X (pc + 1) L (.inl (σ q i) :: st) σ o) : GG ct X pc L (.inl i :: .inr (.inr q) :: st) σ (gi i N o) := by
  intro ho hL hst hin H locs ls hP hD hS hl
  obtain ⟨h1, ho⟩ := gi_in ho
  have hi : g32 i := gOk_hd hst
  refine va_iald (i := Int32.ofInt i) C.1.1 C.1.2.1 C.2.2.2.2.2.2.1 hP q 0 (gW_get hct) rfl (gvp hi h1.1 (by rw [hN]; exact h1.2)) hdg ?_
  rw [gin hi, gtn h1.1]
  exact k ho hL (gOk_cons (show gok _ from (hin q i).1 hlg) (gOk_tl (gOk_tl hst))) hin H locs ls hP hD hS hl
theorem g_zald (C : gC ct cc own nL fr lo ret X) {o : gO} {q n : Nat} {i N : Int} (hct : ct[q]? = some (.inl (1, n))) (hN : (n : Int) = N) (hlg : gLong ct q = false) (hdg : decode cc pc = .ok (.baload, 1)) (k : GG ct X (pc + 1) L (.inl (σ q i) :: st) σ o) : GG ct X pc L (.inl i :: .inr (.inr q) :: st) σ (gi i N o) := by
  intro ho hL hst hin H locs ls hP hD hS hl
  obtain ⟨h1, ho⟩ := gi_in ho
  have hi : g32 i := gOk_hd hst
  refine va_zald (i := Int32.ofInt i) C.1.1 C.1.2.1 C.2.2.2.2.2.2.1 hP q 1 (gW_get hct) rfl (gvp hi h1.1 (by rw [hN]; exact h1.2)) hdg ?_
  rw [gin hi, gtn h1.1]
  exact k ho hL (gOk_cons (show gok _ from (hin q i).1 hlg) (gOk_tl (gOk_tl hst))) hin H locs ls hP hD hS hl
theorem g_lald (C : gC ct cc own nL fr lo ret X) {o : gO} {q n : Nat} {i N : Int} (hct : ct[q]? = some (.inl (2, n))) (hN : (n : Int) = N) (hdg : decode cc pc = .ok (.laload, 1)) (k : GG ct X (pc + 1) L (.inr (.inl (σ q i)) :: st) σ o) : GG ct X pc L (.inl i :: .inr (.inr q) :: st) σ (gi i N o) := by
  intro ho hL hst hin H locs ls hP hD hS hl
  obtain ⟨h1, ho⟩ := gi_in ho
  have hi : g32 i := gOk_hd hst
  refine va_lald (i := Int32.ofInt i) C.1.1 C.1.2.1 C.2.2.2.2.2.2.1 hP q 2 (gW_get hct) rfl (gvp hi h1.1 (by rw [hN]; exact h1.2)) hdg ?_
  rw [gin hi, gtn h1.1]
  exact k ho hL (gOk_cons (show gok _ from (hin q i).2) (gOk_tl (gOk_tl hst))) hin H locs ls hP hD hS hl
theorem g_iast (C : gC ct cc own nL fr lo ret X) {f : gM → gO} {q n : Nat} {i v N : Int} (hct : ct[q]? = some (.inl (0, n))) (hN : (n : Int) = N) (hdg : decode cc pc = .ok (.iastore, 1)) (k : ∀ σ', GG ct X (pc + 1) L st σ' (f σ')) : GG ct X pc L (.inl v :: .inl i :: .inr (.inr q) :: st) σ (gw σ q N i v f) := by
  intro ho hL hst hin H locs ls hP hD hS hl
  obtain ⟨h1, ho⟩ := gw_in ho
  have hv : g32 v := gOk_hd hst
  have hi : g32 i := gOk_hd (gOk_tl hst)
  refine va_iast (i := Int32.ofInt i) (x := Int32.ofInt v) C.1.1 C.1.2.1 C.2.2.2.2.2.2.1 hP hD hS q 0 (gW_get hct) rfl (gvp hi h1.1 (by rw [hN]; exact h1.2)) hdg fun H1 locs1 hP1 hD1 hS1 => ?_
  rw [gin hi, gW_set (v := v) (i := i) hct (by show (Sum.inl _ : va_E) = _; rw [gupd h1.1])] at hP1 hD1
  exact k _ ho hL (gOk_tl (gOk_tl (gOk_tl hst))) (gIn_U hin (fun _ => hv) (g32_64 hv)) H1 locs1 ls hP1 hD1 hS1 hl
theorem gnarZ2 {v : Int} (h : 0 ≤ v ∧ v ≤ 1) : vp_nar .boolean (Int32.ofInt v) = Int32.ofInt v := by
  rcases (show v = 0 ∨ v = 1 by omega) with rfl | rfl <;> rfl
theorem g_zast (C : gC ct cc own nL fr lo ret X) {f : gM → gO} {q n : Nat} {i v N : Int} (hct : ct[q]? = some (.inl (1, n))) (hN : (n : Int) = N) (hdg : decode cc pc = .ok (.bastore, 1)) (k : ∀ σ', GG ct X (pc + 1) L st σ' (f σ')) : GG ct X pc L (.inl v :: .inl i :: .inr (.inr q) :: st) σ (gwb σ q N i v f) := by
  intro ho hL hst hin H locs ls hP hD hS hl
  obtain ⟨⟨h1, h2⟩, ho⟩ := gwb_in ho
  have hv : g32 v := gOk_hd hst
  have hi : g32 i := gOk_hd (gOk_tl hst)
  refine va_zast (i := Int32.ofInt i) (x := Int32.ofInt v) C.1.1 C.1.2.1 C.2.2.2.2.2.2.1 hP hD hS q 1 (gW_get hct) rfl (gvp hi h1.1 (by rw [hN]; exact h1.2)) hdg fun H1 locs1 hP1 hD1 hS1 => ?_
  rw [gnarZ2 h2, gin hi, gW_set (v := v) (i := i) hct (by show (Sum.inl _ : va_E) = _; rw [gupd h1.1])] at hP1 hD1
  exact k _ ho hL (gOk_tl (gOk_tl (gOk_tl hst))) (gIn_U hin (fun _ => hv) (g32_64 hv)) H1 locs1 ls hP1 hD1 hS1 hl
theorem g_last (C : gC ct cc own nL fr lo ret X) {f : gM → gO} {q n : Nat} {i v N : Int} (hct : ct[q]? = some (.inl (2, n))) (hN : (n : Int) = N) (hlg : gLong ct q = true) (hdg : decode cc pc = .ok (.lastore, 1)) (k : ∀ σ', GG ct X (pc + 1) L st σ' (f σ')) : GG ct X pc L (.inr (.inl v) :: .inl i :: .inr (.inr q) :: st) σ (gw σ q N i v f) := by
  intro ho hL hst hin H locs ls hP hD hS hl
  obtain ⟨h1, ho⟩ := gw_in ho
  have hv : g64 v := gOk_hd hst
  have hi : g32 i := gOk_hd (gOk_tl hst)
  refine va_last (i := Int32.ofInt i) (x := Int64.ofInt v) C.1.1 C.1.2.1 C.2.2.2.2.2.2.1 hP hD hS q 2 (gW_get hct) rfl (gvp hi h1.1 (by rw [hN]; exact h1.2)) hdg fun H1 locs1 hP1 hD1 hS1 => ?_
  rw [gin hi, gW_set (v := v) (i := i) hct (by show (Sum.inl _ : va_E) = _; rw [gupdL h1.1])] at hP1 hD1
  exact k _ ho hL (gOk_tl (gOk_tl (gOk_tl hst))) (gIn_U hin (fun h => by rw [hlg] at h; cases h) hv) H1 locs1 ls hP1 hD1 hS1 hl
theorem g_alen (C : gC ct cc own nL fr lo ret X) {o : gO} {q n : Nat} {N : Int} (hct : ct[q]? = some (.inl (0, n))) (hN : Int32.ofNat n = Int32.ofInt N) (hg : g32 N) (hdg : decode cc pc = .ok (.arraylength, 1)) (k : GG ct X (pc + 1) L (.inl N :: st) σ o) : GG ct X pc L (.inr (.inr q) :: st) σ o := by
  intro ho hL hst hin H locs ls hP hD hS hl
  refine va_alen (v := Int32.ofInt N) C.1.1 C.1.2.1 C.2.2.2.2.2.2.1 hP q 0 (gW_get hct) rfl hN hdg ?_
  exact k ho hL (gOk_cons (show gok _ from hg) (gOk_tl hst)) hin H locs ls hP hD hS hl
theorem g_getsV (C : gC ct cc own nL fr lo ret X) {o : gO} {ix : Nat} (hlk : Cond.fieldLink own ix "CellToObject$Cells" "VALUE_PLACES" "[I" ∈ gTb) (hdg : decode cc pc = .ok (.getstatic ix, 3)) (k : GG ct X (pc + 3) L (.inr (.inr 1000) :: st) σ o) : GG ct X pc L st σ o := by
  intro ho hL hst hin H locs ls hP hD hS hl
  exact va_gets C.1.1 C.1.2.1 C.2.2.2.2.2.2.2.2.1.1.1 hS C.1.2.2.2.1 (C.1.2.2.2.2 _ hlk) (fun _ h => h) hdg (k ho hL (gOk_cons trivial hst) hin H locs ls hP hD hS hl)
theorem g_getsH (C : gC ct cc own nL fr lo ret X) {o : gO} {ix : Nat} (hlk : Cond.fieldLink own ix "CellToObject" "HIGHEST_RULE" "[I" ∈ gTb) (hdg : decode cc pc = .ok (.getstatic ix, 3)) (k : GG ct X (pc + 3) L (.inr (.inr 1001) :: st) σ o) : GG ct X pc L st σ o := by
  intro ho hL hst hin H locs ls hP hD hS hl
  exact va_gets C.1.1 C.1.2.1 C.2.2.2.2.2.2.2.2.1.2.1 hS C.1.2.2.2.1 (C.1.2.2.2.2 _ hlk) (fun _ h => h) hdg (k ho hL (gOk_cons trivial hst) hin H locs ls hP hD hS hl)
theorem gVP_ok (i : Int) : g32 (gVP i) := by
  unfold gVP
  rcases (show i.toNat = 0 ∨ i.toNat = 1 ∨ i.toNat = 2 ∨ i.toNat = 3 ∨ i.toNat = 4 ∨ i.toNat = 5 ∨ i.toNat = 6 ∨ i.toNat = 7 ∨ 8 ≤ i.toNat by omega) with h | h | h | h | h | h | h | h | h
  all_goals first
    | (rw [h]; exact ⟨by decide, by decide⟩)
    | (rw [List.getD_eq_getElem?_getD, List.getElem?_eq_none (by simpa using h)]; exact ⟨by decide, by decide⟩)
theorem gHR_ok (i : Int) : g32 (gHR i) := by
  unfold gHR
  rcases (show i.toNat = 0 ∨ i.toNat = 1 ∨ i.toNat = 2 ∨ i.toNat = 3 ∨ 4 ≤ i.toNat by omega) with h | h | h | h | h
  all_goals first
    | (rw [h]; exact ⟨by decide, by decide⟩)
    | (rw [List.getD_eq_getElem?_getD, List.getElem?_eq_none (by simpa using h)]; exact ⟨by decide, by decide⟩)
theorem g_ialdV (C : gC ct cc own nL fr lo ret X) {o : gO} {i : Int} (hdg : decode cc pc = .ok (.iaload, 1)) (k : GG ct X (pc + 1) L (.inl (gVP i) :: st) σ o) : GG ct X pc L (.inl i :: .inr (.inr 1000) :: st) σ (gi i 8 o) := by
  intro ho hL hst hin H locs ls hP hD hS hl
  obtain ⟨h1, ho⟩ := gi_in ho
  have hi : g32 i := gOk_hd hst
  have hs := C.2.2.2.2.2.2.2.2.1.1
  refine va_sld (i := Int32.ofInt i) C.1.1 C.1.2.1 hs.2.1 hs.2.2.1 hs.2.2.2 hS (gvp hi h1.1 h1.2) hdg ?_
  rw [gin hi, gtn h1.1]
  exact k ho hL (gOk_cons (show gok _ from gVP_ok i) (gOk_tl (gOk_tl hst))) hin H locs ls hP hD hS hl
theorem g_ialdH (C : gC ct cc own nL fr lo ret X) {o : gO} {i : Int} (hdg : decode cc pc = .ok (.iaload, 1)) (k : GG ct X (pc + 1) L (.inl (gHR i) :: st) σ o) : GG ct X pc L (.inl i :: .inr (.inr 1001) :: st) σ (gi i 4 o) := by
  intro ho hL hst hin H locs ls hP hD hS hl
  obtain ⟨h1, ho⟩ := gi_in ho
  have hi : g32 i := gOk_hd hst
  have hs := C.2.2.2.2.2.2.2.2.1.2
  refine va_sld (i := Int32.ofInt i) C.1.1 C.1.2.1 hs.2.1 hs.2.2.1 hs.2.2.2 hS (gvp hi h1.1 h1.2) hdg ?_
  rw [gin hi, gtn h1.1]
  exact k ho hL (gOk_cons (show gok _ from gHR_ok i) (gOk_tl (gOk_tl hst))) hin H locs ls hP hD hS hl
theorem g_iret (C : gC ct cc own nL fr lo (some .int) X) {v : Int} (hdg : decode cc pc = .ok (.ireturn, 1)) : GG ct X pc L [.inl v] σ (some (σ, v)) := by
  intro ho hL hst hin H locs ls hP hD hS hl
  have hr : (σ, v) = xr X := Option.some.inj ho
  have hl0 := C.2.2.2.2.2.1
  obtain ⟨-, -, -, -, hret, -, hK, hA, -, hQ⟩ := id C
  show W _ _ _ _ _ _ _ _ _ _ H locs 0 0 (xQ X) _
  rw [hQ]
  refine W.iret (v := Int32.ofInt v) C.1.1 C.1.2.1 hret (fun t ht hW => ?_) hS.2.2 hdg hl0
  rw [← hr]
  exact ⟨⟨Int32.ofInt v, σ, rfl, ⟨rfl, rfl, hin, gOk_hd hst⟩, by rw [ht]; exact hP, va_K.moved hW.alike hK, hD.weaken (fun _ _ _ _ => trivial)⟩, hS.F ht⟩
theorem g_zret (C : gC ct cc own nL fr lo (some .boolean) X) {v : Int} (hdg : decode cc pc = .ok (.ireturn, 1)) : GG ct X pc L [.inl v] σ (gb v (some (σ, v))) := by
  intro ho hL hst hin H locs ls hP hD hS hl
  obtain ⟨h1, ho⟩ := gb_in ho
  have hr : (σ, v) = xr X := Option.some.inj ho
  have hl0 := C.2.2.2.2.2.1
  obtain ⟨-, -, -, -, hret, -, hK, hA, -, hQ⟩ := id C
  show W _ _ _ _ _ _ _ _ _ _ H locs 0 0 (xQ X) _
  rw [hQ]
  refine W.zret (v := Int32.ofInt v) C.1.1 C.1.2.1 hret (gnarZ h1) (fun t ht hW => ?_) hS.2.2 hdg hl0
  rw [← hr]
  exact ⟨⟨Int32.ofInt v, σ, rfl, ⟨rfl, rfl, hin, gOk_hd hst⟩, by rw [ht]; exact hP, va_K.moved hW.alike hK, hD.weaken (fun _ _ _ _ => trivial)⟩, hS.F ht⟩
theorem g_lret (C : gC ct cc own nL fr lo (some .long) X) {v : Int} (hdg : decode cc pc = .ok (.lreturn, 1)) : GG ct X pc L [.inr (.inl v)] σ (some (σ, v)) := by
  intro ho hL hst hin H locs ls hP hD hS hl
  have hr : (σ, v) = xr X := Option.some.inj ho
  have hl0 := C.2.2.2.2.2.1
  obtain ⟨-, -, -, -, hret, -, hK, hA, -, hQ⟩ := id C
  show W _ _ _ _ _ _ _ _ _ _ H locs 0 0 (xQ X) _
  rw [hQ]
  refine W.lret (v := Int64.ofInt v) C.1.1 C.1.2.1 hret (fun t ht hW => ?_) hS.2.2 hdg hl0
  rw [← hr]
  exact ⟨⟨Int64.ofInt v, σ, rfl, ⟨rfl, rfl, hin, gOk_hd hst⟩, by rw [ht]; exact hP, va_K.moved hW.alike hK, hD.weaken (fun _ _ _ _ => trivial)⟩, hS.F ht⟩
theorem g_vret (C : gC ct cc own nL fr lo none X) (hdg : decode cc pc = .ok (.return_, 1)) : GG ct X pc L [] σ (some (σ, 0)) := by
  intro ho hL hst hin H locs ls hP hD hS hl
  have hr : (σ, (0 : Int)) = xr X := Option.some.inj ho
  have hl0 := C.2.2.2.2.2.1
  obtain ⟨-, -, -, -, hret, -, hK, hA, -, hQ⟩ := id C
  show W _ _ _ _ _ _ _ _ _ _ H locs 0 0 (xQ X) _
  rw [hQ]
  refine W.vret C.1.1 C.1.2.1 hret (fun t ht hW => ?_) hS.2.2 hdg hl0
  rw [← hr]
  exact ⟨⟨σ, rfl, ⟨rfl, hin⟩, by rw [ht]; exact hP, va_K.moved hW.alike hK, hD.weaken (fun _ _ _ _ => trivial)⟩, hS.F ht⟩
end GR2
