/-! rooms -/
theorem gcnt_mono {f g : Int → Int} : ∀ n : Nat, (∀ b : Int, 0 ≤ b → b < n → g b ≤ f b) → gcnt g n ≤ gcnt f n
  | 0, _ => Int.le_refl _
  | n + 1, h => by
    have := gcnt_mono n (fun b h1 h2 => h b h1 (by omega))
    have := h n (by omega) (by omega)
    rw [gcnt.eq_2, gcnt.eq_2]
    omega
theorem gcnt_drop {f g : Int → Int} {c : Int} : ∀ n : Nat, 0 ≤ c → c < n → (∀ b : Int, 0 ≤ b → b < n → g b ≤ f b) → g c + 1 ≤ f c → gcnt g n + 1 ≤ gcnt f n
  | 0, h0, h1, _, _ => by omega
  | n + 1, h0, h1, h, hc => by
    rw [gcnt.eq_2, gcnt.eq_2]
    by_cases q : (n : Int) = c
    · have := gcnt_mono n (fun b h1 h2 => h b h1 (by omega))
      rw [q]
      omega
    · have := gcnt_drop n h0 (by omega) (fun b h1 h2 => h b h1 (by omega)) hc
      have := h n (by omega) (by omega)
      omega
theorem gl2_s {body : (gM → Int → Int → gO) → gM → Int → Int → gO} {n : Nat} {s : gM} {a b : Int} : gl2 body (n + 1) s a b = body (gl2 body n) s a b := rfl
theorem gl3_s {body : (gM → Int → Int → Int → gO) → gM → Int → Int → Int → gO} {n : Nat} {s : gM} {a b c : Int} : gl3 body (n + 1) s a b c = body (gl3 body n) s a b c := rfl
theorem gl4_s {body : (gM → Int → Int → Int → Int → gO) → gM → Int → Int → Int → Int → gO} {n : Nat} {s : gM} {a b c d : Int} : gl4 body (n + 1) s a b c d = body (gl4 body n) s a b c d := rfl
/-- the lowest from x on; none -/
def Lo (T : Int → Prop) (A : Int → Int) (x o : Int) : Prop := (0 ≤ o ∧ o < 40) ∧ T o ∧ x ≤ A o ∧ ∀ p, 0 ≤ p → p < 40 → T p → x ≤ A p → A o ≤ A p
def Lx (T : Int → Prop) (A : Int → Int) (x : Int) : Prop := ∀ p, 0 ≤ p → p < 40 → T p → A p < x
theorem objectFrom_e {σ : gM} {x : Int} : (∃ o, F_He_objectFrom σ x = some (σ, o) ∧ Lo (fun p => σ 29 p ≠ -4) (σ 29) x o) ∨ (F_He_objectFrom σ x = some (σ, -1) ∧ Lx (fun p => σ 29 p ≠ -4) (σ 29) x) := by
  unfold F_He_objectFrom
  refine to_gl2 (lo := 0) (hi := 40) (R := fun w => (∃ o, w = some (σ, o) ∧ Lo (fun p => σ 29 p ≠ -4) (σ 29) x o) ∨ (w = some (σ, -1) ∧ Lx (fun p => σ 29 p ≠ -4) (σ 29) x))
    (fun j s a => s = σ ∧ ((a = -1 ∧ ∀ p, 0 ≤ p → p < j → σ 29 p ≠ -4 → σ 29 p < x) ∨ ((0 ≤ a ∧ a < j) ∧ σ 29 a ≠ -4 ∧ x ≤ σ 29 a ∧ ∀ p, 0 ≤ p → p < j → σ 29 p ≠ -4 → x ≤ σ 29 p → σ 29 a ≤ σ 29 p))) ?_ ?_ 200 0 σ (-1) (by omega) (by omega) (by omega) ⟨rfl, Or.inl ⟨rfl, fun p a b => by omega⟩⟩
  · rintro rec j s a j1 j2 ⟨e, hI⟩ ih
    unfold l_He_objectFrom_4 j_He_objectFrom_54 j_He_objectFrom_56
    have skip : (σ 29 j ≠ -4 → σ 29 j < x) → _ := fun hs => ih σ a ⟨rfl, by
      rcases hI with ⟨y1, y2⟩ | ⟨y1, y2, y3, y4⟩
      · refine Or.inl ⟨y1, fun p p1 p2 p3 => ?_⟩
        by_cases c : p = j
        · rw [c] at p3 ⊢; exact hs p3
        · exact y2 p p1 (by omega) p3
      · refine Or.inr ⟨by omega, y2, y3, fun p p1 p2 p3 p4 => ?_⟩
        by_cases c : p = j
        · rw [c] at p3 p4; have := hs p3; omega
        · exact y4 p p1 (by omega) p3 p4⟩
    rw [e, if_pos j2, gi_p (by omega)]
    by_cases c1 : σ 29 j = -4
    · rw [if_pos c1, ga_p (by omega)]; exact skip (fun z => absurd c1 z)
    rw [if_neg c1, gi_p (by omega)]
    by_cases c2 : σ 29 j < x
    · rw [if_pos c2, ga_p (by omega)]; exact skip (fun _ => c2)
    rw [if_neg c2]
    rcases hI with ⟨y1, y2⟩ | ⟨y1, y2, y3, y4⟩
    · rw [if_pos y1, ga_p (by omega)]
      refine ih σ j ⟨rfl, Or.inr ⟨by omega, c1, by omega, fun p p1 p2 p3 p4 => ?_⟩⟩
      by_cases c : p = j
      · rw [c]; exact Int.le_refl _
      · have := y2 p p1 (by omega) p3; omega
    · rw [if_neg (show ¬ a = -1 by omega), gi_p (by omega), gi_p (by omega)]
      by_cases c3 : σ 29 j < σ 29 a
      · rw [if_pos c3, ga_p (by omega)]
        refine ih σ j ⟨rfl, Or.inr ⟨by omega, c1, by omega, fun p p1 p2 p3 p4 => ?_⟩⟩
        by_cases c : p = j
        · rw [c]; exact Int.le_refl _
        · have := y4 p p1 (by omega) p3 p4; omega
      · rw [if_neg c3, ga_p (by omega)]
        refine ih σ a ⟨rfl, Or.inr ⟨by omega, y2, y3, fun p p1 p2 p3 p4 => ?_⟩⟩
        by_cases c : p = j
        · rw [c]; omega
        · exact y4 p p1 (by omega) p3 p4
  · rintro rec s a ⟨e, hI⟩
    unfold l_He_objectFrom_4
    rw [e, if_neg (by decide)]
    rcases hI with ⟨y1, y2⟩ | ⟨y1, y2, y3, y4⟩
    · exact Or.inr ⟨by rw [y1], y2⟩
    · exact Or.inl ⟨a, rfl, y1, y2, y3, y4⟩
theorem firstFrom_e {σ : gM} {x : Int} : (∃ o, F_Mo_firstFrom σ x = some (σ, o) ∧ Lo (fun p => σ 21 p ≠ 0) (σ 22) x o) ∨ (F_Mo_firstFrom σ x = some (σ, -4) ∧ Lx (fun p => σ 21 p ≠ 0) (σ 22) x) := by
  unfold F_Mo_firstFrom
  refine to_gl2 (lo := 0) (hi := 40) (R := fun w => (∃ o, w = some (σ, o) ∧ Lo (fun p => σ 21 p ≠ 0) (σ 22) x o) ∨ (w = some (σ, -4) ∧ Lx (fun p => σ 21 p ≠ 0) (σ 22) x))
    (fun j s a => s = σ ∧ ((a = -4 ∧ ∀ p, 0 ≤ p → p < j → σ 21 p ≠ 0 → σ 22 p < x) ∨ ((0 ≤ a ∧ a < j) ∧ σ 21 a ≠ 0 ∧ x ≤ σ 22 a ∧ ∀ p, 0 ≤ p → p < j → σ 21 p ≠ 0 → x ≤ σ 22 p → σ 22 a ≤ σ 22 p))) ?_ ?_ 200 0 σ (-4) (by omega) (by omega) (by omega) ⟨rfl, Or.inl ⟨rfl, fun p a b => by omega⟩⟩
  · rintro rec j s a j1 j2 ⟨e, hI⟩ ih
    unfold l_Mo_firstFrom_5 j_Mo_firstFrom_51 j_Mo_firstFrom_53
    have skip : (σ 21 j ≠ 0 → σ 22 j < x) → _ := fun hs => ih σ a ⟨rfl, by
      rcases hI with ⟨y1, y2⟩ | ⟨y1, y2, y3, y4⟩
      · refine Or.inl ⟨y1, fun p p1 p2 p3 => ?_⟩
        by_cases c : p = j
        · rw [c] at p3 ⊢; exact hs p3
        · exact y2 p p1 (by omega) p3
      · refine Or.inr ⟨by omega, y2, y3, fun p p1 p2 p3 p4 => ?_⟩
        by_cases c : p = j
        · rw [c] at p3 p4; have := hs p3; omega
        · exact y4 p p1 (by omega) p3 p4⟩
    rw [e, if_pos j2, gi_p (by omega)]
    by_cases c1 : σ 21 j = 0
    · rw [if_pos c1, ga_p (by omega)]; exact skip (fun z => absurd c1 z)
    rw [if_neg c1, gi_p (by omega)]
    by_cases c2 : σ 22 j < x
    · rw [if_pos c2, ga_p (by omega)]; exact skip (fun _ => c2)
    rw [if_neg c2]
    rcases hI with ⟨y1, y2⟩ | ⟨y1, y2, y3, y4⟩
    · rw [if_pos y1, ga_p (by omega)]
      refine ih σ j ⟨rfl, Or.inr ⟨by omega, c1, by omega, fun p p1 p2 p3 p4 => ?_⟩⟩
      by_cases c : p = j
      · rw [c]; exact Int.le_refl _
      · have := y2 p p1 (by omega) p3; omega
    · rw [if_neg (show ¬ a = -4 by omega), gi_p (by omega), gi_p (by omega)]
      by_cases c3 : σ 22 j < σ 22 a
      · rw [if_pos c3, ga_p (by omega)]
        refine ih σ j ⟨rfl, Or.inr ⟨by omega, c1, by omega, fun p p1 p2 p3 p4 => ?_⟩⟩
        by_cases c : p = j
        · rw [c]; exact Int.le_refl _
        · have := y4 p p1 (by omega) p3 p4; omega
      · rw [if_neg c3, ga_p (by omega)]
        refine ih σ a ⟨rfl, Or.inr ⟨by omega, y2, y3, fun p p1 p2 p3 p4 => ?_⟩⟩
        by_cases c : p = j
        · rw [c]; omega
        · exact y4 p p1 (by omega) p3 p4
  · rintro rec s a ⟨e, hI⟩
    unfold l_Mo_firstFrom_5
    rw [e, if_neg (by decide)]
    rcases hI with ⟨y1, y2⟩ | ⟨y1, y2, y3, y4⟩
    · exact Or.inr ⟨by rw [y1], y2⟩
    · exact Or.inl ⟨a, rfl, y1, y2, y3, y4⟩
def thr (τ : gM) : Int → Prop := fun p => τ 21 p = 1
theorem Lo.uniq {τ : gM} {x o o' : Int} (hD : HD τ) (hn : ∀ p, 0 ≤ p → p < 40 → τ 21 p = 1 → 1 ≤ τ 23 p) (h : Lo (thr τ) (τ 22) x o) (k : Lo (thr τ) (τ 22) x o') : o = o' := by
  have a1 := h.2.2.2 o' k.1.1 k.1.2 k.2.1 k.2.2.1
  have a2 := k.2.2.2 o h.1.1 h.1.2 h.2.1 h.2.2.1
  refine Decidable.byContradiction fun c => ?_
  have b1 := hn o h.1.1 h.1.2 h.2.1
  have b2 := hn o' k.1.1 k.1.2 k.2.1
  have := hD o o' h.1.1 h.1.2 k.1.1 k.1.2 h.2.1 k.2.1 c
  unfold rnd at this
  omega
theorem HO.ex {B T : Int} {σ τ : gM} {o : Int} (h : HO B T σ τ o) : (σ 29 o ≠ -4 ↔ τ 21 o = 1) ∧ (τ 21 o ≠ 0 ↔ τ 21 o = 1) ∧ (τ 21 o = 1 → σ 29 o = τ 22 o ∧ σ 30 o = τ 23 o ∧ (0 ≤ τ 22 o ∧ τ 22 o % 8 = 0 ∧ 1 ≤ τ 23 o ∧ τ 23 o ≤ 24 ∧ τ 22 o + rnd (τ 23 o) ≤ 1024)) := by
  obtain ⟨-, h2⟩ := h
  rcases h2 with ⟨a, b⟩ | ⟨a, b, c, -⟩
  · refine ⟨⟨fun z => absurd b z, fun z => by omega⟩, by omega, fun z => by omega⟩
  · exact ⟨⟨fun _ => a, fun _ => by omega⟩, by omega, fun _ => ⟨b.1, b.2.1, c⟩⟩
theorem low_R {B T x : Int} {σ τ : gM} (hO : ∀ o, 0 ≤ o → o < 40 → HO B T σ τ o) (hD : HD τ) :
    (∃ o, F_He_objectFrom σ x = some (σ, o) ∧ F_Mo_firstFrom τ x = some (τ, o) ∧ Lo (thr τ) (τ 22) x o) ∨ (F_He_objectFrom σ x = some (σ, -1) ∧ F_Mo_firstFrom τ x = some (τ, -4) ∧ Lx (thr τ) (τ 22) x) := by
  have hc : ∀ p, 0 ≤ p → p < 40 → τ 21 p = 1 → σ 29 p ≠ -4 ∧ σ 29 p = τ 22 p ∧ τ 21 p ≠ 0 := fun p p1 p2 p3 => ⟨(hO p p1 p2).ex.1.mpr p3, ((hO p p1 p2).ex.2.2 p3).1, by omega⟩
  have hn : ∀ p, 0 ≤ p → p < 40 → τ 21 p = 1 → 1 ≤ τ 23 p := fun p p1 p2 p3 => ((hO p p1 p2).ex.2.2 p3).2.2.2.2.1
  rcases firstFrom_e (σ := τ) (x := x) with ⟨o', e2, m1, m2, m3, m4⟩ | ⟨e2, m⟩
  · have L2 : Lo (thr τ) (τ 22) x o' := ⟨m1, (hO o' m1.1 m1.2).ex.2.1.mp m2, m3, fun p p1 p2 p3 p4 => m4 p p1 p2 (hc p p1 p2 p3).2.2 p4⟩
    rcases objectFrom_e (σ := σ) (x := x) with ⟨o, e1, q1, q2, q3, q4⟩ | ⟨e1, q⟩
    · have t := (hO o q1.1 q1.2).ex.1.mp q2
      have z := (hc o q1.1 q1.2 t).2.1
      have L1 : Lo (thr τ) (τ 22) x o := ⟨q1, t, by omega, fun p p1 p2 p3 p4 => by
        have w := hc p p1 p2 p3
        have := q4 p p1 p2 w.1 (by omega)
        omega⟩
      have := L1.uniq hD hn L2
      subst this
      exact Or.inl ⟨o, e1, e2, L1⟩
    · have w := hc o' m1.1 m1.2 L2.2.1
      have := q o' m1.1 m1.2 w.1
      omega
  · rcases objectFrom_e (σ := σ) (x := x) with ⟨o, e1, q1, q2, q3, q4⟩ | ⟨e1, q⟩
    · have t := (hO o q1.1 q1.2).ex.1.mp q2
      have z := hc o q1.1 q1.2 t
      have := m o q1.1 q1.2 z.2.2
      omega
    · exact Or.inr ⟨e1, e2, fun p p1 p2 p3 => m p p1 p2 (hc p p1 p2 p3).2.2⟩
/-- how many lie from x on -/
def cA (τ : gM) (x : Int) : Int := gcnt (fun o => if τ 21 o = 1 ∧ x ≤ τ 22 o then 1 else 0) 40
theorem cA_le (τ : gM) (x : Int) : 0 ≤ cA τ x ∧ cA τ x ≤ 40 := gcnt_le 40 fun b _ _ => by split <;> omega
theorem cA_mono {τ : gM} {x y : Int} (h : x ≤ y) : cA τ y ≤ cA τ x := gcnt_mono 40 fun b _ _ => by
  split
  · rename_i c; rw [if_pos ⟨c.1, by omega⟩]; exact Int.le_refl _
  · split <;> omega
theorem cA_drop {τ : gM} {x y o : Int} (h : x ≤ y) (o1 : 0 ≤ o) (o2 : o < 40) (ht : τ 21 o = 1) (h1 : x ≤ τ 22 o) (h2 : τ 22 o < y) : cA τ y + 1 ≤ cA τ x := by
  refine gcnt_drop (c := o) 40 o1 o2 (fun b _ _ => ?_) ?_
  · split
    · rename_i c; rw [if_pos ⟨c.1, by omega⟩]; exact Int.le_refl _
    · split <;> omega
  · rw [if_neg (by omega), if_pos ⟨ht, h1⟩]
    decide
theorem cA_pos {τ : gM} {x o : Int} (h : Lo (thr τ) (τ 22) x o) : 1 ≤ cA τ x := by
  have := cA_drop (τ := τ) (x := x) (y := τ 22 o + 1) (o := o) (by have := h.2.2.1; omega) h.1.1 h.1.2 h.2.1 h.2.2.1 (by omega)
  have := (cA_le τ (τ 22 o + 1)).1
  omega
/-- what lies below x ends there -/
def Cln (τ : gM) (x : Int) : Prop := x % 8 = 0 ∧ ∀ p, 0 ≤ p → p < 40 → τ 21 p = 1 → τ 22 p < x → τ 22 p + rnd (τ 23 p) ≤ x
theorem rounded_C {σ : gM} {v : Int} (h : 0 ≤ v) (h2 : v ≤ 24) : F_He_rounded σ v = some (σ, rnd v) := by
  unfold F_He_rounded
  rw [ga_p (by omega), gd_p (by omega), ga_p (by omega)]
  rfl
theorem rounded_M {σ : gM} {v : Int} (h : 0 ≤ v) (h2 : v ≤ 24) : F_Mo_rounded σ v = some (σ, rnd v) := by
  unfold F_Mo_rounded
  rw [ga_p (by omega), gd_p (by omega), ga_p (by omega)]
  rfl
theorem rnd_ok {v : Int} (h : 1 ≤ v) (h2 : v ≤ 24) : v ≤ rnd v ∧ 8 ≤ rnd v ∧ rnd v ≤ 24 ∧ rnd v % 8 = 0 := by unfold rnd; omega
theorem Cln.next {B : Int} {σ τ : gM} {x o : Int} (h : HH B σ τ) (hc : Cln τ x) (o1 : 0 ≤ o) (o2 : o < 40) (ht : τ 21 o = 1) (hx : τ 22 o = x) : Cln τ (x + rnd (τ 23 o)) := by
  have hn := ((h.1 o o1 o2).ex.2.2 ht).2.2
  have hr := rnd_ok hn.2.2.1 hn.2.2.2.1
  refine ⟨by have := hc.1; omega, fun p p1 p2 p3 p4 => ?_⟩
  by_cases c : τ 22 p < x
  · have := hc.2 p p1 p2 p3 c; omega
  · by_cases d : p = o
    · rw [d]; omega
    · have := h.2.1 p o p1 p2 o1 o2 p3 ht d
      have hm := ((h.1 p p1 p2).ex.2.2 p3).2.2
      have := rnd_ok hm.2.2.1 hm.2.2.2.1
      omega
theorem chain_R {B : Int} {σ τ : gM} {k1 k2 : gM → Int → gO} {k3 : gM → Int → Int → gO} (h : HH B σ τ) (hk1 : ∀ s b, k1 s b = some (s, b)) (hk2 : ∀ s b, k2 s b = some (s, b)) :
    ∀ (n n' : Nat) (x i : Int), 0 ≤ x → x ≤ 1024 → Cln τ x → cA τ x + i ≤ 40 → 0 ≤ i → 40 - i < n → 40 - i < n' →
      ∃ y o', gl2 (l_He_freeStart_4 k1 k2) n σ x i = some (σ, y) ∧ gk (F_Mo_firstFrom τ x) (fun s a => gl2 (l_Mo_nextRoom_8 k3) n' s x a) = k3 τ y o' ∧ ((o' = -4 ∧ Lx (thr τ) (τ 22) y) ∨ (Lo (thr τ) (τ 22) y o' ∧ y < τ 22 o')) ∧ (x ≤ y ∧ y ≤ 1024) ∧ Cln τ y ∧ ∀ o, 0 ≤ o → o < 40 → τ 21 o = 1 → τ 22 o = x → cA τ y + 1 ≤ cA τ x
  | 0, _, x, i, x1, x2, hc, hi, i1, f1, f2 => by have := cA_le τ x; omega
  | n + 1, 0, x, i, x1, x2, hc, hi, i1, f1, f2 => by have := cA_le τ x; omega
  | n + 1, n' + 1, x, i, x1, x2, hc, hi, i1, f1, f2 => by
    have ih := chain_R (k3 := k3) h hk1 hk2 n n'
    rw [gl2_s]
    generalize gl2 (l_He_freeStart_4 k1 k2) n = rec at ih ⊢
    have gs : ∀ s a, gl2 (l_Mo_nextRoom_8 k3) (n' + 1) s x a = l_Mo_nextRoom_8 k3 (gl2 (l_Mo_nextRoom_8 k3) n') s x a := fun _ _ => rfl
    simp only [gs]
    generalize gl2 (l_Mo_nextRoom_8 k3) n' = rec' at ih ⊢
    unfold l_He_freeStart_4 l_Mo_nextRoom_8
    rcases low_R (x := x) h.1 h.2.1 with ⟨o, e1, e2, L⟩ | ⟨e1, e2, L⟩
    · have hp := cA_pos L
      have hn := (h.1 o L.1.1 L.1.2).ex.2.2 L.2.1
      have hr := rnd_ok hn.2.2.2.2.1 hn.2.2.2.2.2.1
      rw [if_pos (show i < 40 by omega), gk_e e1, gk_e e2, if_neg (show ¬ o = -1 by have := L.1; omega), if_neg (show ¬ o = -4 by have := L.1; omega), gi_p L.1, gi_p L.1, gi_p L.1, gi_p L.1, hn.1, hn.2.1]
      have hx := L.2.2.1
      by_cases c : τ 22 o = x
      · rw [if_neg (show ¬ x < τ 22 o by omega), if_pos c, gk_e (rounded_C (by omega) (by omega)), gk_e (rounded_M (by omega) (by omega)), ga_p (by omega), ga_p (by omega), ga_p (by omega)]
        have hd := cA_drop (τ := τ) (x := x) (y := x + rnd (τ 23 o)) (o := o) (by omega) L.1.1 L.1.2 L.2.1 (by omega) (by omega)
        obtain ⟨y, o', g1, g2, g3, g4, g5, g6⟩ := ih (x + rnd (τ 23 o)) (i + 1) (by omega) (by omega) (hc.next h L.1.1 L.1.2 L.2.1 c) (by omega) (by omega) (by omega) (by omega)
        have hm := cA_mono (τ := τ) g4.1
        exact ⟨y, o', g1, g2, g3, ⟨by omega, g4.2⟩, g5, fun _ _ _ _ _ => by omega⟩
      · rw [if_pos (show x < τ 22 o by omega), if_neg c, hk1]
        exact ⟨x, o, rfl, rfl, Or.inr ⟨L, by omega⟩, ⟨Int.le_refl _, x2⟩, hc, fun p p1 p2 p3 p4 => by
          have := L.2.2.2 p p1 p2 p3 (by omega); omega⟩
    · have fin : (if i < 40 then gk (F_He_objectFrom σ x) (fun s1 a2 => if a2 = (-1) then (k2 s1 x) else (gi a2 40 <| if x < (s1 29 a2) then (k1 s1 x) else (gi a2 40 <| gk (F_He_rounded s1 (s1 30 a2)) fun s3 a4 => ga (x + a4) fun a5 => ga (i + 1) fun a6 => rec s3 a5 a6))) else k2 σ x) = some (σ, x) := by
        split
        · rw [gk_e e1, if_pos rfl, hk2]
        · rw [hk2]
      rw [fin, gk_e e2, if_pos rfl]
      exact ⟨x, -4, rfl, rfl, Or.inl ⟨rfl, L⟩, ⟨Int.le_refl _, x2⟩, hc, fun p p1 p2 p3 p4 => by have := L p p1 p2 p3; omega⟩
/-- a free room from y to z, or none -/
def Rm (τ : gM) (y z : Int) : Prop := ((y < z ∧ z ≤ 1024) ∨ (y = 1024 ∧ z = 1024)) ∧ (∀ p, 0 ≤ p → p < 40 → τ 21 p = 1 → τ 22 p < y ∨ z ≤ τ 22 p) ∧ z % 8 = 0 ∧ (z = 1024 ∨ ∃ o, (0 ≤ o ∧ o < 40) ∧ τ 21 o = 1 ∧ τ 22 o = z)
theorem start_R {B x : Int} {σ τ : gM} (h : HH B σ τ) (hx : 0 ≤ x) (hx2 : x ≤ 1024) (hc : Cln τ x) :
    ∃ y z, F_He_freeStart σ x = some (σ, y) ∧ F_Mo_nextRoom τ x = some (gU (gU τ 0 44 y) 0 45 (z - y), if y < z then 1 else 0) ∧ F_He_freeEnd σ y = some (σ, z) ∧ x ≤ y ∧ Cln τ y ∧ Rm τ y z ∧ ∀ o, 0 ≤ o → o < 40 → τ 21 o = 1 → τ 22 o = x → cA τ y + 1 ≤ cA τ x := by
  obtain ⟨y, o', g1, g2, g3, g4, g5, g6⟩ := chain_R (k1 := fun s2 b1 => j_He_freeStart_56 s2 b1) (k2 := fun s4 b3 => j_He_freeStart_56 s4 b3) (k3 := fun s5 b3 b4 => j_Mo_nextRoom_45 s5 b3 b4) h (fun _ _ => rfl) (fun _ _ => rfl) 200 200 x 0 hx hx2 hc (by have := cA_le τ x; omega) (by omega) (by omega) (by omega)
  have hn : ∀ p, 0 ≤ p → p < 40 → τ 21 p = 1 → 1 ≤ τ 23 p := fun p p1 p2 p3 => ((h.1 p p1 p2).ex.2.2 p3).2.2.2.2.1
  have fin : ∀ z, y ≤ z → z ≤ 1024 → j_Mo_nextRoom_69_0 (gU τ 0 44 y) y z = some (gU (gU τ 0 44 y) 0 45 (z - y), if y < z then 1 else 0) := by
    intro z z1 z2
    unfold j_Mo_nextRoom_69_0 j_Mo_nextRoom_86
    rw [ga_p (by omega), gp_p, gU_e]
    by_cases c : y < z
    · rw [if_pos (show 0 < z - y by omega), if_pos c, gb_p (by decide)]
    · rw [if_neg (show ¬ 0 < z - y by omega), if_neg c, gb_p (by decide)]
  have e1 : F_He_freeStart σ x = some (σ, y) := g1
  have e2 : F_Mo_nextRoom τ x = j_Mo_nextRoom_45 τ y o' := g2
  rcases g3 with ⟨c, L⟩ | ⟨L, hl⟩
  · refine ⟨y, 1024, e1, ?_, ?_, g4.1, g5, ⟨by omega, fun p p1 p2 p3 => Or.inl (L p p1 p2 p3), by decide, Or.inl rfl⟩, g6⟩
    · rw [e2, c]
      unfold j_Mo_nextRoom_45
      rw [gp_p, if_pos rfl]
      exact fin 1024 g4.2 (by decide)
    · unfold F_He_freeEnd j_He_freeEnd_23
      rcases low_R (x := y) h.1 h.2.1 with ⟨o, q1, q2, q3⟩ | ⟨q1, q2, q3⟩
      · have := L o q3.1.1 q3.1.2 q3.2.1
        have := q3.2.2.1
        omega
      · rw [gk_e q1, if_pos rfl]
  · have ho := (h.1 o' L.1.1 L.1.2).ex.2.2 L.2.1
    have hr := rnd_ok ho.2.2.2.2.1 ho.2.2.2.2.2.1
    refine ⟨y, τ 22 o', e1, ?_, ?_, g4.1, g5, ⟨by omega, fun p p1 p2 p3 => ?_, by omega, Or.inr ⟨o', L.1, L.2.1, rfl⟩⟩, g6⟩
    · rw [e2]
      unfold j_Mo_nextRoom_45
      rw [gp_p, if_neg (show ¬ o' = -4 by have := L.1; omega), gi_p L.1, gU_k (by decide)]
      exact fin _ (by omega) (by omega)
    · unfold F_He_freeEnd j_He_freeEnd_23
      rcases low_R (x := y) h.1 h.2.1 with ⟨o, q1, q2, q3⟩ | ⟨q1, q2, q3⟩
      · have := q3.uniq h.2.1 hn L
        subst this
        rw [gk_e q1, if_neg (show ¬ o = -1 by have := L.1; omega), gi_p L.1, ho.1]
      · have := q3 o' L.1.1 L.1.2 L.2.1
        omega
    · by_cases c : τ 22 p < y
      · exact Or.inl c
      · exact Or.inr (L.2.2.2 p p1 p2 p3 (by omega))
/-- only the model's own two numbers of a room -/
def Fz (τ s' : gM) : Prop := (∀ k, k ≠ 0 → s' k = τ k) ∧ ∀ j, j ≠ 44 → j ≠ 45 → s' 0 j = τ 0 j
theorem Fz.refl (τ : gM) : Fz τ τ := ⟨fun _ _ => rfl, fun _ _ _ => rfl⟩
theorem Fz.trans {τ s t : gM} (h : Fz τ s) (k : Fz s t) : Fz τ t := ⟨fun q a => (k.1 q a).trans (h.1 q a), fun j a b => (k.2 j a b).trans (h.2 j a b)⟩
theorem Fz.two (τ : gM) (y z : Int) : Fz τ (gU (gU τ 0 44 y) 0 45 z) := ⟨fun k a => by rw [gU_k a, gU_k a], fun j a b => by rw [gU_i b, gU_i a]⟩
theorem Fz.x {σ τ s' : gM} (h : Fz τ s') : FrX [] [0] [44, 45] σ τ σ s' := by
  refine ⟨fun _ _ => rfl, fun k a => ?_, fun j a => ?_, rfl⟩
  · simp only [List.mem_cons, List.not_mem_nil, or_false, not_or] at a
    exact h.1 k a
  · simp only [List.mem_cons, List.not_mem_nil, or_false, not_or] at a
    exact h.2 j a.1 a.2
theorem HH.z {B : Int} {σ τ s' : gM} (h : HH B σ τ) (f : Fz τ s') : HH B σ s' := h.fx f.x (by decide) (by decide) (Int.le_refl _)
theorem Fz.cA {τ s' : gM} (f : Fz τ s') (x : Int) : cA s' x = cA τ x := by
  have a := f.1 21 (by decide)
  have b := f.1 22 (by decide)
  show gcnt _ 40 = gcnt _ 40
  rw [a, b]
theorem Fz.cln {τ s' : gM} (f : Fz τ s') {x : Int} (h : Cln τ x) : Cln s' x := by
  unfold Cln
  rw [f.1 21 (by decide), f.1 22 (by decide), f.1 23 (by decide)]
  exact h
theorem Cln.zero (τ : gM) (hO : ∀ p, 0 ≤ p → p < 40 → τ 21 p = 1 → 0 ≤ τ 22 p) : Cln τ 0 := ⟨by decide, fun p p1 p2 p3 p4 => by have := hO p p1 p2 p3; omega⟩
theorem Rm.cln {B : Int} {σ τ : gM} {y z : Int} (h : HH B σ τ) (hy : Cln τ y) (r : Rm τ y z) : Cln τ z ∧ z ≤ 1024 ∧ y ≤ z := by
  obtain ⟨r1, r2, r3, r4⟩ := r
  refine ⟨⟨r3, fun p p1 p2 p3 p4 => ?_⟩, by omega, by omega⟩
  rcases r2 p p1 p2 p3 with c | c
  · have := hy.2 p p1 p2 p3 c; omega
  · omega
/-- where an object of some bytes may lie -/
def Fit (τ : gM) (size r : Int) : Prop := (0 ≤ r ∧ r % 8 = 0 ∧ r + size ≤ 1024) ∧ ∀ p, 0 ≤ p → p < 40 → τ 21 p = 1 → τ 22 p + rnd (τ 23 p) ≤ r ∨ r + size ≤ τ 22 p
theorem Fz.fit {τ s' : gM} (f : Fz τ s') {size r : Int} (h : Fit s' size r) : Fit τ size r := by
  unfold Fit at h
  rw [f.1 21 (by decide), f.1 22 (by decide), f.1 23 (by decide)] at h
  exact h
theorem Fz.fit' {τ s' : gM} (f : Fz τ s') {size r : Int} (h : Fit τ size r) : Fit s' size r := by
  unfold Fit
  rw [f.1 21 (by decide), f.1 22 (by decide), f.1 23 (by decide)]
  exact h
theorem Rm.fit {τ : gM} {y z size : Int} (hy : Cln τ y) (h0 : 0 ≤ y) (r : Rm τ y z) (hs : size ≤ z - y) (h8 : 8 ≤ size) : Fit τ size y := by
  obtain ⟨r1, r2, r3, r4⟩ := r
  refine ⟨⟨h0, hy.1, by omega⟩, fun p p1 p2 p3 => ?_⟩
  rcases r2 p p1 p2 p3 with c | c
  · exact Or.inl (hy.2 p p1 p2 p3 c)
  · exact Or.inr (by omega)
theorem rest_R {B size best bl : Int} {σ : gM} {k3 : gM → Int → gO} (hk3 : ∀ s b, k3 s b = some (s, b)) (hb : best ≠ -4) :
    ∀ (n' : Nat) (x : Int) (s' : gM), HH B σ s' → s' 0 31 ≠ 1 → 0 ≤ x → x ≤ 1024 → Cln s' x → (x = 1024 ∨ ∃ o, (0 ≤ o ∧ o < 40) ∧ s' 21 o = 1 ∧ s' 22 o = x) → cA s' x < n' → ∃ t', gl3 (l_Mo_roomFor__14 k3 size) n' s' best bl x = some (t', best) ∧ Fz s' t'
  | 0, x, s', h, h31, x1, x2, hc, hx, f1 => by have := cA_le s' x; omega
  | n' + 1, x, s', h, h31, x1, x2, hc, hx, f1 => by
    have ih := rest_R (B := B) (size := size) (bl := bl) (σ := σ) hk3 hb n'
    rw [gl3_s]
    generalize gl3 (l_Mo_roomFor__14 k3 size) n' = rec at ih ⊢
    unfold l_Mo_roomFor__14 j_Mo_roomFor__73
    by_cases c : x < 1024
    · obtain ⟨y, z, e1, e2, e3, xy, cy, r, hd⟩ := start_R h x1 x2 hc
      rw [if_pos c, gk_e e2]
      by_cases d : y < z
      · obtain ⟨cz, z1, z2⟩ := r.cln h cy
        have f := Fz.two s' y (z - y)
        have w44 : gU (gU s' 0 44 y) 0 45 (z - y) 0 44 = y := by rw [gU_i (by decide), gU_e]
        have w45 : gU (gU s' 0 44 y) 0 45 (z - y) 0 45 = z - y := gU_e
        have w31 : gU (gU s' 0 44 y) 0 45 (z - y) 0 31 = s' 0 31 := by rw [gU_i (by decide), gU_i (by decide)]
        obtain ⟨o, o1, o2, o3⟩ := hx.resolve_left (by omega)
        have h1 := hd o o1.1 o1.2 o2 o3
        have h2 := cA_mono (τ := s') (x := y) (y := z) (by omega)
        have go : ∃ t', rec (gU (gU s' 0 44 y) 0 45 (z - y)) best bl z = some (t', best) ∧ Fz s' t' := by
          obtain ⟨t', g1, g2⟩ := ih z _ (h.z f) (by rw [w31]; exact h31) (by omega) z1 (f.cln cz) (r.2.2.2.imp id fun ⟨o, a, b, c⟩ => ⟨o, a, by rw [f.1 21 (by decide)]; exact b, by rw [f.1 22 (by decide)]; exact c⟩) (by rw [f.cA]; omega)
          exact ⟨t', g1, f.trans g2⟩
        rw [if_pos d, if_neg (show ¬ (1 : Int) = 0 by decide), w44, w45, w31, if_neg hb, if_neg h31, ga_p (by omega), show y + (z - y) = z by omega]
        by_cases k : z - y < size
        · rw [if_pos k]; exact go
        · rw [if_neg k]; exact go
      · rw [if_neg d, if_pos rfl, hk3]
        exact ⟨_, rfl, Fz.two _ _ _⟩
    · rw [if_neg c, hk3]
      exact ⟨s', rfl, Fz.refl _⟩
theorem rooms_R {B size : Int} {σ : gM} {k1 k2 k3 : gM → Int → gO} (hk1 : ∀ s b, k1 s b = some (s, b)) (hk2 : ∀ s b, k2 s b = some (s, b)) (hk3 : ∀ s b, k3 s b = some (s, b)) (hs : 8 ≤ size) :
    ∀ (n n' : Nat) (x y i best bl : Int) (s' : gM), HH B σ s' → (σ 1 3 = s' 0 31 ∧ (s' 0 31 = 0 ∨ s' 0 31 = 1)) → 0 ≤ x → x ≤ 1024 → Cln s' x → F_He_freeStart σ x = some (σ, y) → 0 ≤ i → i ≤ 41 → (y = 1024 ∨ cA s' y + i ≤ 40) → (best = -4 ∨ (Fit s' size best ∧ s' 0 31 = 1)) → 41 - i < n → 41 - i < n' →
      ∃ r t', gl4 (l_He_roomFor_21 k1 k2 size) n σ best bl y i = some (σ, r) ∧ gl3 (l_Mo_roomFor__14 k3 size) n' s' best bl x = some (t', r) ∧ Fz s' t' ∧ (r = -4 ∨ Fit s' size r) := by
  intro n
  induction n with
  | zero => intro n' x y i best bl s' _ _ _ _ _ _ _ i2 _ _ f1; omega
  | succ n ihn =>
    intro n' x y i best bl s' h h31 x1 x2 hc hy i1 i2 hi hb f1 f2
    cases n' with
    | zero => clear h h31 hc hy hi hb; omega
    | succ n' =>
    have ih := ihn n'
    have rst := fun best (hb : best ≠ -4) bl => rest_R (B := B) (size := size) (bl := bl) (σ := σ) (best := best) hk3 hb n'
    rw [gl3_s, gl4_s]
    generalize gl3 (l_Mo_roomFor__14 k3 size) n' = rec' at ih rst ⊢
    generalize gl4 (l_He_roomFor_21 k1 k2 size) n = rec at ih ⊢
    obtain ⟨y0, z, e1, e2, e3, xy, cy, r, hd⟩ := start_R h x1 x2 hc
    have hyy : y0 = y := by rw [hy] at e1; exact (Prod.mk.inj (Option.some.inj e1)).2.symm
    subst hyy
    have ca := cA_le s' y0
    unfold l_He_roomFor_21 l_Mo_roomFor__14
    by_cases d : y0 < z
    · have hyl : y0 < 1024 := by have := r.1; omega
      have hi' := hi.resolve_left (by omega)
      obtain ⟨cz, z1, z2⟩ := r.cln h cy
      have f := Fz.two s' y0 (z - y0)
      have w44 : gU (gU s' 0 44 y0) 0 45 (z - y0) 0 44 = y0 := by rw [gU_i (by decide), gU_e]
      have w45 : gU (gU s' 0 44 y0) 0 45 (z - y0) 0 45 = z - y0 := gU_e
      have w31 : gU (gU s' 0 44 y0) 0 45 (z - y0) 0 31 = s' 0 31 := by rw [gU_i (by decide), gU_i (by decide)]
      have h2 := cA_mono (τ := s') (x := y0) (y := z) (by omega)
      have hH := h.z f
      have hz : z = 1024 ∨ ∃ o, (0 ≤ o ∧ o < 40) ∧ gU (gU s' 0 44 y0) 0 45 (z - y0) 21 o = 1 ∧ gU (gU s' 0 44 y0) 0 45 (z - y0) 22 o = z := r.2.2.2.imp id fun ⟨o, a, b, c⟩ => ⟨o, a, by rw [f.1 21 (by decide)]; exact b, by rw [f.1 22 (by decide)]; exact c⟩
      have go : ∀ b l, (b = -4 ∨ (Fit s' size b ∧ s' 0 31 = 1)) → ∃ r t', j_He_roomFor_89 k1 k2 rec σ size b l i z = some (σ, r) ∧ rec' (gU (gU s' 0 44 y0) 0 45 (z - y0)) b l z = some (t', r) ∧ Fz s' t' ∧ (r = -4 ∨ Fit s' size r) := by
        intro b l hbl
        unfold j_He_roomFor_89
        obtain ⟨y1, z', q1, q2, q3, q4, q5, q6, q7⟩ := start_R hH (by omega) z1 (f.cln cz)
        rw [gk_e q1, ga_p (by omega)]
        have : y1 = 1024 ∨ cA (gU (gU s' 0 44 y0) 0 45 (z - y0)) y1 + (i + 1) ≤ 40 := by
          rcases hz with c | ⟨o, o1, o2, o3⟩
          · left; have := q6.1; omega
          · right
            have := q7 o o1.1 o1.2 o2 o3
            have := f.cA z
            omega
        obtain ⟨rr, t', g1, g2, g3, g4⟩ := ih z y1 (i + 1) b l _ hH (by rw [w31]; exact h31) (by omega) z1 (f.cln cz) q1 (by omega) (by omega) this (hbl.imp id fun q => ⟨f.fit' q.1, by rw [w31]; exact q.2⟩) (by omega) (by omega)
        exact ⟨rr, t', g1, g2, f.trans g3, g4.imp id f.fit⟩
      unfold j_He_roomFor_70 j_Mo_roomFor__62 j_Mo_roomFor__73
      rw [if_neg (show ¬ 40 < i by omega), if_pos hyl, gk_e e3, ga_p (by omega), if_pos (show x < 1024 by omega), gk_e e2, if_pos d, if_neg (show ¬ (1 : Int) = 0 by decide), w44, w45, w31, ga_p (by omega), gv_p, gv_p, ga_p (by omega), show y0 + (z - y0) = z by omega]
      by_cases k : z - y0 < size
      · rw [if_pos k, if_pos k]; exact go best bl hb
      rw [if_neg k, if_neg k]
      have ft : Fit s' size y0 := r.fit cy (by omega) (by omega) hs
      have take : ∃ r t', (gi 3 4 <| if (σ 1 3) = 0 then (k1 σ y0) else (j_He_roomFor_89 k1 k2 rec σ size y0 (z - y0) i z)) = some (σ, r) ∧ rec' (gU (gU s' 0 44 y0) 0 45 (z - y0)) y0 (z - y0) z = some (t', r) ∧ Fz s' t' ∧ (r = -4 ∨ Fit s' size r) := by
        rw [gi_p (by decide)]
        by_cases m : σ 1 3 = 0
        · rw [if_pos m, hk1]
          obtain ⟨t', g1, g2⟩ := rst y0 (by omega) (z - y0) z _ hH (by rw [w31]; omega) (by omega) z1 (f.cln cz) hz (by rw [f.cA]; omega)
          exact ⟨y0, t', rfl, g1, f.trans g2, Or.inr ft⟩
        · rw [if_neg m]; exact go y0 (z - y0) (Or.inr ⟨ft, h31.2.resolve_left fun z => m (h31.1.trans z)⟩)
      by_cases m : best = -4
      · rw [if_pos m, if_pos m]; exact take
      rw [if_neg m, if_neg m]
      by_cases m1 : s' 0 31 = 1
      · rw [if_pos m1]
        by_cases m2 : z - y0 < bl
        · rw [if_pos m2, if_pos m2]; exact take
        · rw [if_neg m2, if_neg m2]; exact go best bl hb
      · exact absurd (hb.resolve_left m).2 m1
    · have y1024 : y0 = 1024 := by have := r.1; omega
      have eC : (if 40 < i then k2 σ best else if y0 < 1024 then gk (F_He_freeEnd σ y0) (fun s1 a2 => ga (a2 - y0) fun a3 => if a3 < size then (j_He_roomFor_89 k1 k2 rec s1 size best bl i a2) else (if best = (-4) then (j_He_roomFor_70 k1 k2 rec s1 size y0 i a2 a3) else (if a3 < bl then (j_He_roomFor_70 k1 k2 rec s1 size y0 i a2 a3) else (j_He_roomFor_89 k1 k2 rec s1 size best bl i a2)))) else k2 σ best) = some (σ, best) := by
        split
        · exact hk2 _ _
        · rw [if_neg (by omega)]; exact hk2 _ _
      rw [eC]
      by_cases c : x < 1024
      · rw [if_pos c, gk_e e2, if_neg d, if_pos rfl, hk3]
        exact ⟨best, _, rfl, rfl, Fz.two _ _ _, hb.imp id And.left⟩
      · rw [if_neg c, hk3]
        exact ⟨best, s', rfl, rfl, Fz.refl _, hb.imp id And.left⟩
