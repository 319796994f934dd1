/-! the two new objects stand in the relation -/
def nS (T : nT) : gM := fun k i => match T[k]? with
  | some (_, .inl (_, (_, f))) => f i
  | some (_, .inr (_, vs)) => (match vs[i.toNat]? with
    | some (some (.inl x)) => x
    | _ => 0)
  | none => 0
def sC0 : gM := nS nT_Co_21
def sM0 : gM := nS (nT_Mo_l5 4)
def nop (v : nV) : Option Nat := match v with
  | some (.inr (.inr r)) => some r
  | _ => none
def nrl (v : nV) : Bool := match v with
  | some (.inl _) => true
  | some (.inr (.inr _)) => true
  | _ => false
def nsp (q : Nat × nD) : gD := match q.2 with
  | .inl (t, (n, _)) => .inl (t, n)
  | .inr (ci, vs) => .inr (ci, vs.map nop)
def nrd (d : nD) : Bool := match d with
  | .inr (_, vs) => vs.all nrl
  | _ => true
theorem nW_gW {T : nT} {ct : gT} (h1 : T.map nsp = ct) (h2 : T.map (fun q => q.1) = List.range T.length) (h3 : (T.all fun q => nrd q.2) = true) (cy : gY) (ad : Nat → Nat) : nW cy ad T = gW ct cy ad (nS T) := by
  subst h1
  apply List.ext_getElem?
  intro k
  unfold nW gW
  rw [List.getElem?_map, List.getElem?_mapIdx, List.getElem?_map]
  cases hk : T[k]? with
  | none => rfl
  | some q =>
    have hid : q.1 = k := by
      have e : (T.map (fun q => q.1))[k]? = some q.1 := by rw [List.getElem?_map, hk]; rfl
      rw [h2, List.getElem?_range (List.getElem?_eq_some_iff.mp hk).1] at e
      exact (Option.some.inj e).symm
    have hr := List.all_eq_true.mp h3 q (List.mem_of_getElem? hk)
    obtain ⟨id, d⟩ := q
    dsimp only at hid
    subst hid
    show some (ad id, nE cy ad d) = some (ad id, gE cy ad (nS T) id (nsp (id, d)))
    congr 2
    rcases d with ⟨t, n, f⟩ | ⟨ci, vs⟩
    · have e : ∀ i, nS T id i = f i := fun i => by unfold nS; rw [hk]
      match t with
      | 0 => show _ = (Sum.inl (cy.1, (n, .inl (fun j : Nat => Int32.ofInt (nS T id (j : Int))))) : va_E); simp only [e]; rfl
      | 1 => show _ = (Sum.inl (cy.2.1, (n, .inl (fun j : Nat => Int32.ofInt (nS T id (j : Int))))) : va_E); simp only [e]; rfl
      | t + 2 => show _ = (Sum.inl (cy.2.2, (n, .inr (.inl (fun j : Nat => Int64.ofInt (nS T id (j : Int)))))) : va_E); simp only [e]; rfl
    · show (Sum.inr (ci, vs.map (nc ad)) : va_E) = Sum.inr (ci, gF ad (nS T) id (vs.map nop))
      congr 2
      apply List.ext_getElem?
      intro j
      unfold gF
      rw [List.getElem?_map, List.getElem?_mapIdx, List.getElem?_map]
      cases hv : vs[j]? with
      | none => rfl
      | some v =>
        have h4 := List.all_eq_true.mp hr v (List.mem_of_getElem? hv)
        rcases v with _ | x | x | r
        · cases h4
        · have e : nS T id (j : Int) = x := by
            unfold nS
            rw [hk]
            show (match vs[((j : Int)).toNat]? with
              | some (some (.inl x)) => x
              | _ => 0) = x
            rw [Int.toNat_natCast, hv]
          show some (Value.int (Int32.ofInt x)) = some (Value.int (Int32.ofInt (nS T id (j : Int))))
          rw [e]
        · cases h4
        · rfl
theorem eC0 (cy : gY) (ad : Nat → Nat) : nW cy ad nT_Co_21 = gW gctC cy ad sC0 := nW_gW (by decide +kernel) rfl rfl cy ad
theorem eM0 (cy : gY) (ad : Nat → Nat) : nW cy ad (nT_Mo_l5 4) = gW gctM cy ad sM0 := nW_gW (by decide +kernel) rfl rfl cy ad
def nbf (f : Int → Int) : Prop := ∀ i, -10 ≤ f i ∧ f i ≤ 10
theorem nb0 : -10 ≤ (0 : Int) ∧ (0 : Int) ≤ 10 := by decide
theorem nbf_z : nbf z0 := fun _ => nb0
theorem nbf_fl {v i : Int} (h : -10 ≤ v ∧ v ≤ 10) : nbf (fl v i) := fun z => by
  unfold fl
  split
  · exact h
  · exact nb0
theorem nbf_set {f : Int → Int} {i v : Int} (hf : nbf f) (h : -10 ≤ v ∧ v ≤ 10) : nbf (nset f i v) := fun z => by
  unfold nset
  split
  · exact h
  · exact hf z
def nbv (v : nV) : Bool := match v with
  | some (.inl x) => decide (-10 ≤ x ∧ x ≤ 10)
  | _ => true
def nbd (d : nD) : Prop := match d with
  | .inl (_, (_, f)) => nbf f
  | .inr (_, vs) => vs.all nbv = true
theorem nS_b {T : nT} (h : ∀ q ∈ T, nbd q.2) (k : Nat) (i : Int) : -10 ≤ nS T k i ∧ nS T k i ≤ 10 := by
  unfold nS
  cases hk : T[k]? with
  | none => exact nb0
  | some q =>
    have hq := h q (List.mem_of_getElem? hk)
    obtain ⟨id, d⟩ := q
    rcases d with ⟨t, n, f⟩ | ⟨ci, vs⟩
    · exact hq i
    · show -10 ≤ (match vs[i.toNat]? with
        | some (some (.inl x)) => x
        | _ => 0) ∧ (match vs[i.toNat]? with
        | some (some (.inl x)) => x
        | _ => 0) ≤ 10
      cases hv : vs[i.toNat]? with
      | none => exact nb0
      | some v =>
        have h2 := List.all_eq_true.mp hq v (List.mem_of_getElem? hv)
        rcases v with _ | x | x | r
        · exact nb0
        · exact of_decide_eq_true h2
        · exact nb0
        · exact nb0
theorem gIn_b {ct : gT} {σ : gM} (h : ∀ k i, -10 ≤ σ k i ∧ σ k i ≤ 10) : gIn ct σ := fun k i => by
  have := h k i
  exact ⟨fun _ => ⟨by omega, by omega⟩, ⟨by omega, by omega⟩⟩
theorem nbC : ∀ q ∈ nT_Co_21, nbd q.2 := by
  unfold nT_Co_21
  repeat' first
    | exact fun q h => absurd h List.not_mem_nil
    | refine List.forall_mem_cons.mpr ⟨?_, ?_⟩
    | exact nbf_z
    | exact nbf_fl (by decide)
    | exact nbf_set (nbf_set (nbf_set (nbf_set nbf_z (by decide)) (by decide)) (by decide)) (by decide)
    | exact rfl
theorem nbM : ∀ q ∈ nT_Mo_l5 4, nbd q.2 := by
  unfold nT_Mo_l5
  repeat' first
    | exact fun q h => absurd h List.not_mem_nil
    | refine List.forall_mem_cons.mpr ⟨?_, ?_⟩
    | exact nbf_z
    | exact nbf_fl (by decide)
    | exact rfl
theorem inC0 : gIn gctC sC0 := gIn_b (nS_b nbC)
theorem inM0 : gIn gctM sM0 := gIn_b (nS_b nbM)
theorem fl_in {v i z : Int} (h : 0 ≤ z) (h2 : z < i) : fl v i z = v := if_pos ⟨h, h2⟩
theorem RR_0 : RR 0 sC0 sM0 := by
  have noOn : ∀ p b l, 0 ≤ p → p < 2 → 0 ≤ b → ¬ On sM0 p b l := by
    intro p b l p1 p2 b1 o
    have hb := o.bd (show Shp sM0 from ⟨Or.inr (Or.inl rfl), Or.inr (Or.inl rfl)⟩) p1 p2
    have h4 : sM0 4 l = -4 := fl_in hb.1 hb.2
    have := o.2.2
    omega
  have c15 : ∀ p, gcnt (fun b => sC0 15 (64 * p + b)) 64 = 0 := fun p => gcnt_zero 64 fun _ _ _ => rfl
  have R : R0 0 sC0 sM0 := by
    refine ⟨⟨fun a _ _ => ⟨rfl, Int.le_refl 0, (by decide : (0 : Int) < 8192)⟩, fun b _ _ => ⟨rfl, Int.le_refl 0, Int.le_refl 0⟩, fun k k1 k2 => ?_, rfl, Int.le_refl 0, (by decide : (0 : Int) ≤ 60)⟩, ⟨⟨rfl, by decide, by decide⟩, ⟨rfl, by decide, by decide⟩, ⟨rfl, by decide, by decide⟩, ⟨rfl, by decide, by decide⟩⟩, ⟨rfl, Or.inl rfl, fun c _ _ => ⟨rfl, Int.le_refl 0⟩, rfl, Int.le_refl 0⟩, fun c _ _ _ _ _ => ⟨rfl, Int.le_refl 0, Int.le_refl 0⟩, rfl, Int.le_refl 0, Int.le_refl 0⟩
    have e : sM0 3 k = -4 := fl_in k1 k2
    rw [e]
    rcases (show k = 0 ∨ k = 1 ∨ k = 2 ∨ k = 3 by omega) with z | z | z | z <;> subst z <;> rfl
  have La : LnA 0 (-1) sC0 sM0 := by
    refine ⟨⟨⟨Or.inr (Or.inl rfl), Or.inr (Or.inl rfl)⟩, rfl, rfl, ⟨Int.le_refl 0, Int.le_refl 0⟩, Int.le_refl 0, Int.le_refl 0⟩, fun p b l p1 p2 b1 _ o => absurd o (noOn p b l p1 p2 b1), fun p b _ _ _ _ => Or.inl rfl, fun p b l l' p1 p2 b1 o _ => absurd o (noOn p b l p1 p2 b1), fun l l1 l2 => Or.inl (fl_in l1 l2), fun p b l b' l' p1 p2 b1 _ _ _ _ o _ => absurd o (noOn p b l p1 p2 b1), fun p b l p1 p2 b1 _ o => absurd o (noOn p b l p1 p2 b1), fun i _ _ => Or.inl rfl⟩
  have Lb : LnB (fun _ => False) (-1) sC0 sM0 := by
    refine ⟨fun i _ _ => ⟨Int.le_refl 0, Int.le_refl 0⟩, fun i _ _ _ => Or.inr ⟨rfl, rfl⟩, fun i _ _ _ _ => ⟨rfl, Or.inl rfl⟩, fun i _ _ _ => Or.inr ⟨rfl, rfl⟩, fun i _ _ z => z.elim, fun p b b' _ _ _ _ _ _ z _ => absurd z (by show ¬ (0 : Int) = 1; decide), fun p p1 p2 => ?_⟩
    rw [c15]
    exact ⟨rfl, (by decide : (0 : Int) ≤ 2 * 2)⟩
  have P : Rpa 0 (-1) 0 sC0 sM0 := by
    refine ⟨⟨⟨rfl, by decide, by decide⟩, ⟨rfl, by decide, by decide⟩, Int.le_refl 0, Int.le_refl 0⟩, fun q q1 q2 => ?_, fun f f1 f2 => ?_, fun f f1 f2 z => absurd (fl_in f1 f2) z, fun f g f1 f2 _ _ z _ => absurd (fl_in f1 f2) z, fun x _ _ => ⟨rfl, Or.inr ⟨Int.le_refl 0, (by decide : (0 : Int) ≤ 255)⟩⟩⟩
    · exact ⟨rfl, Or.inl (fl_in q1 q2)⟩
    · exact ⟨rfl, Or.inl (fl_in f1 f2), rfl, Or.inl rfl⟩
  have H : HH 0 sC0 sM0 := by
    refine ⟨fun o o1 o2 => ⟨⟨Int.le_refl 0, Int.le_refl 0⟩, Or.inl ⟨rfl, fl_in o1 o2⟩⟩, fun o o' _ _ _ _ z _ _ => absurd z (by show ¬ (0 : Int) = 1; decide), ⟨fun i i1 i2 => ⟨rfl, Or.inl (fl_in i1 i2)⟩, fun i i1 i2 => ⟨rfl, Or.inl (fl_in i1 i2)⟩⟩, ?_⟩
    exact (gcnt_zero (f := sM0 21) 40 fun _ _ _ => rfl).symm
  exact ⟨⟨R, ⟨La, Lb⟩, P, fun q _ _ => ⟨rfl, Or.inl rfl⟩, ⟨Int.le_refl 0, (by decide : (0 : Int) < 100)⟩, ⟨Int.le_refl 0, (by decide : (0 : Int) ≤ 100)⟩, rfl, fun i i1 i2 => absurd i2 (by show ¬ i < 0; omega)⟩, H⟩
