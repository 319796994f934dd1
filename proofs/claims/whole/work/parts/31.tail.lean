/-! the end of an asking -/
/-- lines: the one that was new is asked -/
theorem asked_A {B p b l : Int} {σ τ s s' : gM} (hA : LnA B (64 * p + b) σ τ) (hp : 0 ≤ p) (hp2 : p < 2) (hb : 0 ≤ b) (hb2 : b < 64) (hl : On τ p b l) (h13 : ∀ i, 0 ≤ i → i < 128 → σ 13 i ≤ σ 9 9) (hlt : ∀ p' b' l', 0 ≤ p' → p' < 2 → 0 ≤ b' → b' < 64 → 64 * p' + b' ≠ 64 * p + b → On τ p' b' l' → τ 6 l' < τ 0 18)
    (a7 : s 9 7 = σ 9 7) (a8 : s 9 8 = σ 9 8) (a9 : s 9 9 = σ 9 9 + 1) (a10 : s 10 = σ 10) (a11 : s 11 = σ 11) (a12 : s 12 = σ 12) (a13 : s 13 = gU σ 13 (64 * p + b) (σ 9 9 + 1) 13) (a14 : s 14 = σ 14)
    (c4 : s' 4 = τ 4) (c5 : s' 5 = τ 5) (c6 : s' 6 = gU τ 6 l (τ 0 18) 6) (c7 : s' 7 = τ 7) (c8 : s' 8 = τ 8) (c9 : s' 9 = τ 9) (d5 : s' 0 5 = τ 0 5) (d6 : s' 0 6 = τ 0 6) (d18 : s' 0 18 = τ 0 18) : LnA (B + 1) (-1) s s' := by
  obtain ⟨⟨hS, h7, h8, h9, h18⟩, L1, L2, L3, L4, L5, L6, TT⟩ := hA
  have hon : ∀ p b l, On s' p b l ↔ On τ p b l := fun p b l => On_sm c4 d5 d6
  unfold LnA Shp Byt
  simp only [hon, a7, a8, a9, a10, a11, a12, a14, c4, c5, c7, c8, c9, d5, d6, d18]
  refine ⟨⟨hS, h7, h8, ⟨by omega, by omega⟩, ⟨by omega, by omega⟩⟩, L1, L2, L3, L4, fun p' b' l1 b2 l2 q1 q2 q3 q4 q5 q6 q7 o1 o2 => ?_, fun p' b' l' q1 q2 q3 q4 o => ?_, TT⟩
  · have r := L5 p' b' l1 b2 l2 q1 q2 q3 q4 q5 q6 q7 o1 o2
    refine ⟨r.1, fun _ _ => ?_⟩
    have i1 := h13 (64 * p' + b') (by omega) (by omega)
    have i2 := h13 (64 * p' + b2) (by omega) (by omega)
    rw [a13, c6]
    by_cases e1 : 64 * p' + b' = 64 * p + b
    · obtain ⟨rfl, rfl⟩ := idx_inj hb hb2 q3 q4 e1
      obtain rfl := L3 p' b' l1 l q1 q2 hb o1 hl
      have e2 : 64 * p' + b2 ≠ 64 * p' + b' := by omega
      have n2 : l2 ≠ l1 := fun z => by subst z; have := (On.inj hS o1 o2).2; omega
      have := hlt p' b2 l2 q1 q2 q5 q6 e2 o2
      rw [gU_e, gU_i e2, gU_e, gU_i n2]
      exact ⟨by omega, by omega⟩
    · by_cases e2 : 64 * p' + b2 = 64 * p + b
      · obtain ⟨rfl, rfl⟩ := idx_inj hb hb2 q5 q6 e2
        obtain rfl := L3 p' b2 l2 l q1 q2 hb o2 hl
        have n1 : l1 ≠ l2 := fun z => by subst z; have := (On.inj hS o1 o2).2; omega
        have := hlt p' b' l1 q1 q2 q3 q4 e1 o1
        rw [gU_i e1, gU_e, gU_e, gU_i n1]
        exact ⟨by omega, by omega⟩
      · have n1 : l1 ≠ l := fun z => by
          subst z
          have := On.inj hS o1 hl
          exact e1 (by rw [this.1, this.2])
        have n2 : l2 ≠ l := fun z => by
          subst z
          have := On.inj hS o2 hl
          exact e2 (by rw [this.1, this.2])
        rw [gU_i e1, gU_i e2, gU_i n1, gU_i n2]
        exact r.2 e1 e2
  · have r := L6 p' b' l' q1 q2 q3 q4 o
    refine ⟨r.1, by omega, fun _ => ⟨?_, by omega⟩⟩
    rw [c6, gU_at]
    by_cases e : l' = l
    · rw [if_pos e]; omega
    · rw [if_neg e]
      exact (r.2.2 fun z => by
        obtain ⟨rfl, rfl⟩ := idx_inj hb hb2 q3 q4 z
        exact e (L3 p' b' l' l q1 q2 hb o hl)).1
/-- blocks: one isn't beside any more -/
theorem evict_B {e p v : Int} {σ τ : gM} (h : LnB (fun _ => False) e σ τ) (hp : 0 ≤ p) (hp2 : p < 2) (hv : 0 ≤ v) (hv2 : v < 64) (h1 : σ 15 (64 * p + v) = 1) : LnB (fun _ => False) e (gU (gU σ 15 (64 * p + v) 0) 16 p (σ 16 p - 1)) (gU τ 12 (64 * p + v) 0) := by
  obtain ⟨n1, n2, n3, n4, n5, n6, n7⟩ := h
  have z13 : gU (gU σ 15 (64 * p + v) 0) 16 p (σ 16 p - 1) 13 = σ 13 := by rw [gU_k (by decide), gU_k (by decide)]
  have z14 : gU (gU σ 15 (64 * p + v) 0) 16 p (σ 16 p - 1) 14 = σ 14 := by rw [gU_k (by decide), gU_k (by decide)]
  have z9 : gU (gU σ 15 (64 * p + v) 0) 16 p (σ 16 p - 1) 9 = σ 9 := by rw [gU_k (by decide), gU_k (by decide)]
  have z15 : gU (gU σ 15 (64 * p + v) 0) 16 p (σ 16 p - 1) 15 = gU σ 15 (64 * p + v) 0 15 := by rw [gU_k (by decide)]
  unfold LnB
  rw [z13, z14, z9, z15]
  refine ⟨n1, n2, n3, fun i i1 i2 i3 => ?_, fun _ _ _ z => z.elim, fun p' b b' q1 q2 q3 q4 q5 q6 q7 q8 => ?_, fun p' q1 q2 => ?_⟩
  · rw [gU_at, gU_at]
    by_cases c : i = 64 * p + v
    · rw [if_pos c, if_pos c]; exact Or.inr ⟨rfl, rfl⟩
    · rw [if_neg c, if_neg c]; exact n4 i i1 i2 i3
  · rw [gU_at] at q7 q8
    by_cases c1 : 64 * p' + b = 64 * p + v
    · rw [if_pos c1] at q7; omega
    · rw [if_neg c1] at q7
      by_cases c2 : 64 * p' + b' = 64 * p + v
      · rw [if_pos c2] at q8; omega
      · rw [if_neg c2] at q8
        rw [gU_i c1, gU_i c2]
        exact n6 p' b b' q1 q2 q3 q4 q5 q6 q7 q8
  · have r := n7 p' q1 q2
    rw [gU_at, gU_k (by decide)]
    by_cases c : p' = p
    · subst c
      rw [if_pos rfl]
      have g1 := gcnt_upd (f := fun b => σ 15 (64 * p' + b)) (g := fun b => gU σ 15 (64 * p' + v) 0 15 (64 * p' + b)) (c := v) 64 hv hv2 (fun b hbv => gU_i (by omega))
      rw [gU_e, h1] at g1
      have e5 : gU τ 12 (64 * p' + v) 0 0 = τ 0 := gU_k (by decide)
      rw [g1, e5]
      exact ⟨by omega, by omega⟩
    · rw [if_neg c]
      have := gcnt_congr (f := fun b => gU σ 15 (64 * p + v) 0 15 (64 * p' + b)) (g := fun b => σ 15 (64 * p' + b)) 64 (fun b b1 b2 => gU_i (by omega))
      rw [this]
      exact r
/-- blocks: the one that was asked, beside now -/
theorem join_B {p b : Int} {σ τ s s' : gM} (h : LnB (fun _ => False) (64 * p + b) σ τ) (hp : 0 ≤ p) (hp2 : p < 2) (hb : 0 ≤ b) (hb2 : b < 64) (hT : σ 14 (64 * p + b) = 0) (hlt : ∀ i, 0 ≤ i → i < 128 → τ 12 i < τ 0 18) (hcap : σ 15 (64 * p + b) = 0 → σ 16 p < τ 0 5 * τ 0 6) (h99 : 0 ≤ σ 9 9)
    (a9 : s 9 9 = σ 9 9 + 1) (a13 : s 13 = gU σ 13 (64 * p + b) (σ 9 9 + 1) 13) (a14 : s 14 = σ 14) (a15 : s 15 = gU σ 15 (64 * p + b) 1 15) (a16 : s 16 = gU σ 16 p (σ 16 p + (1 - σ 15 (64 * p + b))) 16)
    (c10 : s' 10 = gU τ 10 (64 * p + b) 1 10) (c11 : s' 11 = gU τ 11 (64 * p + b) 0 11) (c12 : s' 12 = gU τ 12 (64 * p + b) (τ 0 18) 12) (d5 : s' 0 5 = τ 0 5) (d6 : s' 0 6 = τ 0 6) (d18 : s' 0 18 = τ 0 18) : LnB (fun _ => False) (-1) s s' := by
  obtain ⟨n1, n2, n3, n4, n5, n6, n7⟩ := h
  have hi : 0 ≤ 64 * p + b ∧ 64 * p + b < 128 := by omega
  have hfull : 0 ≤ τ 12 (64 * p + b) := by rcases n4 _ hi.1 hi.2 (fun z => z) with z | z <;> omega
  have hlti := hlt _ hi.1 hi.2
  unfold LnB
  rw [a9, a13, a14, a15, a16, c10, c11, c12, d5, d6, d18]
  refine ⟨fun i i1 i2 => ?_, fun i i1 i2 i3 => ?_, fun i i1 i2 i3 _ => ?_, fun i i1 i2 i3 => ?_, fun _ _ _ z => z.elim, fun p' b1 b2 q1 q2 q3 q4 q5 q6 q7 q8 => ?_, fun p' q1 q2 => ?_⟩
  · rw [gU_at]
    have := n1 i i1 i2
    split <;> omega
  · rw [gU_at, gU_at]
    by_cases c : i = 64 * p + b
    · rw [if_pos c, if_pos c]; exact Or.inl ⟨rfl, by omega⟩
    · rw [if_neg c, if_neg c]; exact n2 i i1 i2 i3
  · rw [gU_at]
    by_cases c : i = 64 * p + b
    · rw [if_pos c, c]; exact ⟨hT, Or.inl rfl⟩
    · rw [if_neg c]; exact n3 i i1 i2 i3 c
  · rw [gU_at, gU_at, gU_at]
    by_cases c : i = 64 * p + b
    · rw [if_pos c, if_pos c, if_pos c]; exact Or.inl ⟨rfl, by omega, by omega, Int.le_refl _⟩
    · rw [if_neg c, if_neg c, if_neg c]; exact n4 i i1 i2 i3
  · rw [gU_at] at q7 q8
    have k1 := n1 (64 * p' + b1) (by omega) (by omega)
    have k2 := n1 (64 * p' + b2) (by omega) (by omega)
    have t1 := hlt (64 * p' + b1) (by omega) (by omega)
    have t2 := hlt (64 * p' + b2) (by omega) (by omega)
    rw [gU_at, gU_at, gU_at, gU_at]
    by_cases c1 : 64 * p' + b1 = 64 * p + b
    · by_cases c2 : 64 * p' + b2 = 64 * p + b
      · rw [if_pos c1, if_pos c2, if_pos c1, if_pos c2]; omega
      · rw [if_pos c1, if_neg c2, if_pos c1, if_neg c2]; omega
    · rw [if_neg c1] at q7
      by_cases c2 : 64 * p' + b2 = 64 * p + b
      · rw [if_neg c1, if_pos c2, if_neg c1, if_pos c2]; omega
      · rw [if_neg c2] at q8
        rw [if_neg c1, if_neg c2, if_neg c1, if_neg c2]
        exact n6 p' b1 b2 q1 q2 q3 q4 q5 q6 q7 q8
  · have r := n7 p' q1 q2
    rw [gU_at]
    by_cases c : p' = p
    · subst c
      rw [if_pos rfl]
      have := gcnt_upd (f := fun x => σ 15 (64 * p' + x)) (g := fun x => gU σ 15 (64 * p' + b) 1 15 (64 * p' + x)) (c := b) 64 hb hb2 (fun x hx => gU_i (by omega))
      rw [this, gU_e]
      refine ⟨by omega, ?_⟩
      rcases n4 _ hi.1 hi.2 (fun z => z) with z | z
      · omega
      · have := hcap z.1; omega
    · rw [if_neg c]
      have := gcnt_congr (f := fun x => gU σ 15 (64 * p + b) 1 15 (64 * p' + x)) (g := fun x => σ 15 (64 * p' + x)) 64 (fun x b1 b2 => gU_i (by omega))
      rw [this]
      exact r
theorem gU_c {σ : gM} {k k' : Nat} {i i' v v' : Int} (h : k' ≠ k) : gU (gU σ k' i' v') k i v = gU (gU σ k i v) k' i' v' := by
  funext q j
  unfold gU
  by_cases c1 : q = k ∧ j = i
  · rw [if_pos c1, if_neg (fun z => h (z.1.symm.trans c1.1)), if_pos c1]
  · rw [if_neg c1]
    by_cases c2 : q = k' ∧ j = i'
    · rw [if_pos c2, if_pos c2]
    · rw [if_neg c2, if_neg c2, if_neg c1]
/-- what the lines' part alone reads -/
def SmL (σ τ s s' : gM) : Prop := (s 9 = σ 9 ∧ s 10 = σ 10 ∧ s 11 = σ 11 ∧ s 12 = σ 12 ∧ s 13 = σ 13 ∧ s 14 = σ 14) ∧ (s' 4 = τ 4 ∧ s' 5 = τ 5 ∧ s' 6 = τ 6 ∧ s' 7 = τ 7 ∧ s' 8 = τ 8 ∧ s' 9 = τ 9) ∧ s' 0 5 = τ 0 5 ∧ s' 0 6 = τ 0 6 ∧ s' 0 18 = τ 0 18
theorem LnA.smL {B e : Int} {σ τ s s' : gM} (h : LnA B e σ τ) (q : SmL σ τ s s') : LnA B e s s' := by
  obtain ⟨⟨a9, a10, a11, a12, a13, a14⟩, ⟨c4, c5, c6, c7, c8, c9⟩, d5, d6, d18⟩ := q
  unfold LnA Shp Byt
  simp only [On_sm c4 d5 d6, a9, a10, a11, a12, a13, a14, c4, c5, c6, c7, c8, c9, d5, d6, d18]
  exact h
/-- what the end of an asking does -/
theorem tail_R {B p b a l : Int} {σ τ : gM} (h0 : R0 B σ τ) (hA : LnA B (64 * p + b) σ τ) (hN : LnB (fun _ => False) (64 * p + b) σ τ) (hp : 0 ≤ p) (hp2 : p < 2) (hb : 0 ≤ b) (hb2 : b < 64) (ha : 0 ≤ a) (ha2 : a < 512) (hab : a / 8 = b) (hl : On τ p b l) (hs6 : ∀ p' b' l', 0 ≤ p' → p' < 2 → 0 ≤ b' → b' < 64 → 64 * p' + b' ≠ 64 * p + b → On τ p' b' l' → τ 6 l' < τ 0 18) (hs12 : ∀ i, 0 ≤ i → i < 128 → τ 12 i < τ 0 18) (hB : B + 4 ≤ 1073741824) :
    Sim (j_Ca_ask_33 σ p a (64 * p + b)) (j_Mo_ask_48 τ p b l) (fun s r s' r' => r' = l ∧ r = s 11 (8 * (64 * p + b) + a % 8) ∧ R0 (B + 4) s s' ∧ LnA (B + 4) (-1) s s' ∧ LnB (fun _ => False) (-1) s s' ∧ On s' p b l ∧ FrM σ τ s s' ∧ s' 0 18 = τ 0 18) := by
  have hbd := hl.bd hA.1.1 hp hp2
  have hSS := hA.1.1
  have h79 := hA.1.2.1
  have h89 := hA.1.2.2.1
  have h99 := hA.1.2.2.2.1
  have hcapB : 1 ≤ τ 0 5 * τ 0 6 ∧ τ 0 5 * τ 0 6 ≤ 16 := by
    obtain ⟨x, y⟩ := hSS
    rcases x with x | x | x <;> rcases y with y | y | y | y <;> rw [x, y] <;> decide
  unfold j_Ca_ask_33 j_Mo_ask_48
  refine sim_spend h0 (by decide) (by decide) (by decide) (by omega) fun t t' r1 f1 => ?_
  have A1 := hA.sm f1.smA
  have N1 := hN.sm f1.smA
  have t4 := f1.2.2.1 4 (by decide) (by decide) (by decide) (by decide) (by decide) (by decide)
  have t6 := f1.2.2.1 6 (by decide) (by decide) (by decide) (by decide) (by decide) (by decide)
  have t12 := f1.2.2.1 12 (by decide) (by decide) (by decide) (by decide) (by decide) (by decide)
  have t05 := f1.2.2.2 5 (by decide)
  have t06 := f1.2.2.2 6 (by decide)
  have t018 := f1.2.2.2 18 (by decide)
  have hon : ∀ p b l, On t' p b l ↔ On τ p b l := fun p b l => On_sm t4 t05 t06
  have hl1 := (hon _ _ _).mpr hl
  have s6 : ∀ p' b' l', 0 ≤ p' → p' < 2 → 0 ≤ b' → b' < 64 → 64 * p' + b' ≠ 64 * p + b → On t' p' b' l' → t' 6 l' < t' 0 18 := fun p' b' l' q1 q2 q3 q4 q5 q6 => by rw [t6, t018]; exact hs6 p' b' l' q1 q2 q3 q4 q5 ((hon _ _ _).mp q6)
  have s12 : ∀ i, 0 ≤ i → i < 128 → t' 12 i < t' 0 18 := fun i i1 i2 => by rw [t12, t018]; exact hs12 i i1 i2
  have h7 : t 9 7 = t' 0 5 := A1.1.2.1
  have h8 : t 9 8 = t' 0 6 := A1.1.2.2.1
  have h9 := A1.1.2.2.2.1
  have hcap : 1 ≤ t' 0 5 * t' 0 6 ∧ t' 0 5 * t' 0 6 ≤ 16 := by rw [t05, t06]; exact hcapB
  have hi : 0 ≤ 64 * p + b ∧ 64 * p + b < 128 := by omega
  obtain ⟨n1, n2, n3, n4, n5, n6, n7⟩ := id N1
  have hT : t 14 (64 * p + b) = 0 := by
    have q1 := (A1.2.1 p b l hp hp2 hb hb2 hl1).1
    rcases A1.2.2.2.2.2.2.2 _ hi.1 hi.2 with z | z
    · omega
    · exact z
  have hbs : ∀ i, 0 ≤ i → i < 128 → (t 15 i = 1 ∧ 1 ≤ t' 12 i) ∨ (t 15 i = 0 ∧ t' 12 i = 0) := fun i i1 i2 => by
    rcases n4 i i1 i2 (fun z => z) with z | z
    · exact Or.inl ⟨z.1, z.2.1⟩
    · exact Or.inr z
  have h16 : ∀ p', 0 ≤ p' → p' < 2 → 0 ≤ t 16 p' ∧ t 16 p' ≤ 16 := fun p' q1 q2 => by
    have r := n7 p' q1 q2
    have := gcnt_le (f := fun b => t 15 (64 * p' + b)) 64 (fun b b1 b2 => by rcases hbs (64 * p' + b) (by omega) (by omega) with z | z <;> omega)
    omega
  rw [gi_p hi, gw_p hbd, ga_p (by omega), ga_p (by omega), gwb_p ⟨hi, by decide⟩, ga_p (by omega), ga_p (by omega), gwb_p ⟨hi, by decide⟩]
  have e12 : gU (gU (gU t' 6 l (t' 0 18)) 10 (64 * p + b) 1) 11 (64 * p + b) 0 12 = t' 12 := by rw [gU_k (by decide), gU_k (by decide), gU_k (by decide)]
  have e0 : gU (gU (gU t' 6 l (t' 0 18)) 10 (64 * p + b) 1) 11 (64 * p + b) 0 0 = t' 0 := by rw [gU_k (by decide), gU_k (by decide), gU_k (by decide)]
  -- the end of the class
  have endC : ∀ x : gM, x 9 9 = t 9 9 → j_Ca_ask_57 x a (64 * p + b) = some (gU (gU x 9 9 (t 9 9 + 1)) 13 (64 * p + b) (t 9 9 + 1), gU (gU x 9 9 (t 9 9 + 1)) 13 (64 * p + b) (t 9 9 + 1) 11 (8 * (64 * p + b) + a % 8)) := by
    intro x hx
    unfold j_Ca_ask_57
    rw [hx, ga_p (by omega), gp_p, gU_e, gw_p hi, ga_p (by omega), gd_p (by omega), ga_p (by omega), show (64 * p + b) * 8 + a % 8 = 8 * (64 * p + b) + a % 8 by omega, gi_p (by omega)]
  -- both ends, given what the play has become: y15 y16 of the class, z12 of the model, as one step from LnB
  have both : ∀ (x x' : gM), R0 (B + 1) x x' → LnB (fun _ => False) (64 * p + b) x x' → (∀ k, k ≠ 15 → k ≠ 16 → x k = t k) → (∀ k, k ≠ 12 → x' k = t' k) → (∀ i, 0 ≤ i → i < 128 → x' 12 i < t' 0 18) → (x 15 (64 * p + b) = 0 → x 16 p < t' 0 5 * t' 0 6) →
      Sim (if x 15 (64 * p + b) = 0 then (j_Ca_ask_57 (gU (gU x 15 (64 * p + b) 1) 16 p (x 16 p + 1)) a (64 * p + b)) else j_Ca_ask_57 x a (64 * p + b)) (some (gU (gU (gU (gU x' 6 l (t' 0 18)) 10 (64 * p + b) 1) 11 (64 * p + b) 0) 12 (64 * p + b) (t' 0 18), l))
        (fun s r s' r' => r' = l ∧ r = s 11 (8 * (64 * p + b) + a % 8) ∧ R0 (B + 4) s s' ∧ LnA (B + 4) (-1) s s' ∧ LnB (fun _ => False) (-1) s s' ∧ On s' p b l ∧ FrM σ τ s s' ∧ s' 0 18 = τ 0 18) := by
    intro x x' rx nx fx fx' sx cx
    have xk : ∀ k, k ≠ 15 → k ≠ 16 → x k = t k := fx
    have nx4 := nx.2.2.2.1 _ hi.1 hi.2 (fun z => z)
    -- the class' memory at the end, whichever way
    have hend : ∃ y : gM, (if x 15 (64 * p + b) = 0 then (j_Ca_ask_57 (gU (gU x 15 (64 * p + b) 1) 16 p (x 16 p + 1)) a (64 * p + b)) else j_Ca_ask_57 x a (64 * p + b)) = some (y, y 11 (8 * (64 * p + b) + a % 8)) ∧ y 15 = gU x 15 (64 * p + b) 1 15 ∧ y 16 = gU x 16 p (x 16 p + (1 - x 15 (64 * p + b))) 16 ∧ y 13 = gU x 13 (64 * p + b) (x 9 9 + 1) 13 ∧ (∀ j, j ≠ 9 → y 9 j = x 9 j) ∧ y 9 9 = x 9 9 + 1 ∧ (∀ k, k ≠ 9 → k ≠ 13 → k ≠ 15 → k ≠ 16 → y k = x k) := by
      by_cases c : x 15 (64 * p + b) = 0
      · rw [if_pos c, endC _ (by rw [gU_k (by decide), gU_k (by decide), xk 9 (by decide) (by decide)])]
        refine ⟨_, rfl, ?_, ?_, ?_, fun j hj => ?_, ?_, fun k k1 k2 k3 k4 => ?_⟩
        · rw [gU_k (by decide), gU_k (by decide), gU_k (by decide)]
        · rw [gU_k (by decide), gU_k (by decide), c]; funext j; rw [gU_at, gU_at, gU_k (by decide)]; rfl
        · rw [xk 9 (by decide) (by decide)]; funext j; rw [gU_at, gU_at, gU_k (by decide), gU_k (by decide), gU_k (by decide)]
        · rw [gU_k (by decide), gU_i hj, gU_k (by decide), gU_k (by decide)]
        · rw [gU_k (by decide), gU_e, xk 9 (by decide) (by decide)]
        · rw [gU_k k2, gU_k k1, gU_k k4, gU_k k3]
      · have c1 : x 15 (64 * p + b) = 1 := by rcases nx4 with z | z; exact z.1; exact absurd z.1 c
        rw [if_neg c, endC x (by rw [xk 9 (by decide) (by decide)])]
        refine ⟨_, rfl, ?_, ?_, ?_, fun j hj => ?_, ?_, fun k k1 k2 k3 k4 => ?_⟩
        · rw [gU_k (by decide), gU_k (by decide)]; funext j; rw [gU_at]; split
          · rename_i z; rw [z, c1]
          · rfl
        · rw [gU_k (by decide), gU_k (by decide), c1]; funext j; rw [gU_at]; split
          · rename_i z; rw [z]; omega
          · rfl
        · rw [xk 9 (by decide) (by decide)]; funext j; rw [gU_at, gU_at, gU_k (by decide)]
        · rw [gU_k (by decide), gU_i hj]
        · rw [gU_k (by decide), gU_e, xk 9 (by decide) (by decide)]
        · rw [gU_k k2, gU_k k1]
    obtain ⟨y, ey, y15, y16, y13, y9, y99, yk⟩ := hend
    rw [ey]
    have x0 : x' 0 = t' 0 := fx' 0 (by decide)
    have hlx : LnA (B + 1) (64 * p + b) x x' := (A1.mono (by omega)).smL ⟨⟨xk 9 (by decide) (by decide), xk 10 (by decide) (by decide), xk 11 (by decide) (by decide), xk 12 (by decide) (by decide), xk 13 (by decide) (by decide), xk 14 (by decide) (by decide)⟩, ⟨fx' 4 (by decide), fx' 5 (by decide), fx' 6 (by decide), fx' 7 (by decide), fx' 8 (by decide), fx' 9 (by decide)⟩, by rw [x0], by rw [x0], by rw [x0]⟩
    have hox : ∀ p b l, On x' p b l ↔ On t' p b l := fun p b l => On_sm (fx' 4 (by decide)) (by rw [x0]) (by rw [x0])
    have z4 : gU (gU (gU (gU x' 6 l (t' 0 18)) 10 (64 * p + b) 1) 11 (64 * p + b) 0) 12 (64 * p + b) (t' 0 18) 4 = x' 4 := by rw [gU_k (by decide), gU_k (by decide), gU_k (by decide), gU_k (by decide)]
    have z0 : gU (gU (gU (gU x' 6 l (t' 0 18)) 10 (64 * p + b) 1) 11 (64 * p + b) 0) 12 (64 * p + b) (t' 0 18) 0 = x' 0 := by rw [gU_k (by decide), gU_k (by decide), gU_k (by decide), gU_k (by decide)]
    refine sim_ret ⟨rfl, rfl, ?_, ?_, ?_, ?_, ?_, ?_⟩
    · have q : R0 (B + 4) x x' := rx.mono (by omega)
      unfold R0
      rw [yk 1 (by decide) (by decide) (by decide) (by decide), yk 2 (by decide) (by decide) (by decide) (by decide), yk 3 (by decide) (by decide) (by decide) (by decide), yk 4 (by decide) (by decide) (by decide) (by decide), yk 5 (by decide) (by decide) (by decide) (by decide), yk 6 (by decide) (by decide) (by decide) (by decide), yk 7 (by decide) (by decide) (by decide) (by decide), yk 8 (by decide) (by decide) (by decide) (by decide)]
      exact (((q.upM (by decide)).upM (by decide)).upM (by decide)).upM (by decide)
    · have hn1 := nx.1
      refine (asked_A (s := y) (s' := gU (gU (gU (gU x' 6 l (t' 0 18)) 10 (64 * p + b) 1) 11 (64 * p + b) 0) 12 (64 * p + b) (t' 0 18)) hlx hp hp2 hb hb2 ((hox _ _ _).mpr hl1) (fun i i1 i2 => (hn1 i i1 i2).2) (fun p' b' l' q1 q2 q3 q4 q5 q6 => by rw [fx' 6 (by decide), x0]; exact s6 p' b' l' q1 q2 q3 q4 q5 ((hox _ _ _).mp q6)) (y9 7 (by decide)) (y9 8 (by decide)) y99 (yk 10 (by decide) (by decide) (by decide) (by decide)) (yk 11 (by decide) (by decide) (by decide) (by decide)) (yk 12 (by decide) (by decide) (by decide) (by decide)) y13 (yk 14 (by decide) (by decide) (by decide) (by decide)) z4 ?_ ?_ ?_ ?_ ?_ (by rw [z0]) (by rw [z0]) (by rw [z0])).mono (by omega)
      · rw [gU_k (by decide), gU_k (by decide), gU_k (by decide), gU_k (by decide)]
      · rw [gU_k (by decide), gU_k (by decide), gU_k (by decide), x0]
      · rw [gU_k (by decide), gU_k (by decide), gU_k (by decide), gU_k (by decide)]
      · rw [gU_k (by decide), gU_k (by decide), gU_k (by decide), gU_k (by decide)]
      · rw [gU_k (by decide), gU_k (by decide), gU_k (by decide), gU_k (by decide)]
    · refine join_B (s := y) (s' := gU (gU (gU (gU x' 6 l (t' 0 18)) 10 (64 * p + b) 1) 11 (64 * p + b) 0) 12 (64 * p + b) (t' 0 18)) nx hp hp2 hb hb2 (by rw [xk 14 (by decide) (by decide)]; exact hT) (fun i i1 i2 => by rw [x0]; exact sx i i1 i2) (fun z => by rw [x0]; exact cx z) (by rw [xk 9 (by decide) (by decide)]; exact h9.1) y99 y13 (yk 14 (by decide) (by decide) (by decide) (by decide)) y15 y16 ?_ ?_ ?_ (by rw [z0]) (by rw [z0]) (by rw [z0])
      · rw [gU_k (by decide), gU_k (by decide)]; funext j; rw [gU_at, gU_at, gU_k (by decide)]
      · rw [gU_k (by decide)]; funext j; rw [gU_at, gU_at, gU_k (by decide), gU_k (by decide)]
      · rw [x0]; funext j; rw [gU_at, gU_at, gU_k (by decide), gU_k (by decide), gU_k (by decide)]
    · exact (On_sm z4 (by rw [z0]) (by rw [z0])).mpr ((hox _ _ _).mpr hl1)
    · refine f1.frV.frM.trans ⟨fun k a1 a2 a3 a4 a5 a6 a7 a8 a9 a10 a11 a12 a13 => ?_, ?_, fun j hj => ?_, fun k a1 a2 a3 a4 a5 a6 a7 => ?_, fun j hj hj2 => by rw [z0, x0]⟩
      · rw [yk k a6 a10 a12 a13]; exact xk k a12 a13
      · rw [yk 4 (by decide) (by decide) (by decide) (by decide), xk 4 (by decide) (by decide)]
      · rw [y9 j hj, xk 9 (by decide) (by decide)]
      · rw [gU_k (by omega), gU_k (by omega), gU_k (by omega), gU_k (by omega)]; exact fx' k (by omega)
    · rw [z0, x0]; exact t018
  have r0 : R0 (B + 1) t t' := r1
  have m12 : ∀ i, 0 ≤ i → i < 128 → (t 15 i = 1 ∧ 1 ≤ gU (gU (gU t' 6 l (t' 0 18)) 10 (64 * p + b) 1) 11 (64 * p + b) 0 12 i) ∨ (t 15 i = 0 ∧ gU (gU (gU t' 6 l (t' 0 18)) 10 (64 * p + b) 1) 11 (64 * p + b) 0 12 i = 0) := by rw [e12]; exact hbs
  unfold F_Mo_playBeside
  rw [ga_p (by omega), ga_p (by omega), gi_p hi, e12]
  have e112 : ∀ m : gM, j_Mo_playBeside_112 m p b = some (gU m 12 (64 * p + b) (m 0 18), 0) := by
    intro m
    unfold j_Mo_playBeside_112
    rw [ga_p (by omega), ga_p (by omega), gw_p hi]
  have ni := n4 _ hi.1 hi.2 (fun z => z)
  rw [show t' 0 18 = t' 0 18 from rfl]
  by_cases hbe : t 15 (64 * p + b) = 0
  · have h12 : t' 12 (64 * p + b) = 0 := by rcases ni with z | z <;> omega
    rw [if_pos hbe, if_pos h12, gk_e (many_e hp hp2 m12), e0, ga_p (by omega)]
    have hn := (n7 p hp hp2).1
    rw [← hn]
    have hq := h16 p hp hp2
    unfold F_Ca_joinPlay
    rw [gi_p ⟨hp, hp2⟩, h7, h8, ga_p (by omega)]
    by_cases hc : t 16 p < t' 0 5 * t' 0 6
    · rw [if_pos hc, if_neg (show ¬ t 16 p = t' 0 5 * t' 0 6 by omega), gk_e (e112 _), e0]
      unfold j_Ca_joinPlay_23
      rw [gwb_p ⟨hi, by decide⟩, gi_p ⟨hp, hp2⟩, gU_k (by decide), ga_p (by omega), gw_p ⟨hp, hp2⟩, gk_s]
      have := both t t' r0 N1 (fun _ _ _ => rfl) (fun _ _ => rfl) s12 (fun _ => hc)
      rw [if_pos hbe] at this
      exact this
    · have hcx : t 16 p = t' 0 5 * t' 0 6 := by have := (n7 p hp hp2).2; omega
      have hex : ∃ b, 0 ≤ b ∧ b < 64 ∧ t 15 (64 * p + b) = 1 := by
        refine Classical.byContradiction fun hno => ?_
        have : gcnt (fun b => t 15 (64 * p + b)) 64 = 0 := gcnt_zero 64 fun b b1 b2 => by
          rcases hbs (64 * p + b) (by omega) (by omega) with z | z
          · exact absurd ⟨b, b1, b2, z.1⟩ hno
          · exact z.1
        omega
      obtain ⟨v, hv, ev⟩ := leavePlay_e hp hp2 (fun b b1 b2 => by rcases hbs (64 * p + b) (by omega) (by omega) with z | z; exact Or.inl z.1; exact Or.inr z.1) hex (by omega)
      have hvb := hv.1
      have hvi : v ≠ b := fun z => by have := hv.2.1; rw [z] at this; omega
      rw [if_neg hc, gk_e ev, if_pos hcx, evictM_e hp hp2 m12 (fun b1 b2 q1 q2 q3 q4 q5 q6 => by rw [e12]; exact n6 p b1 b2 hp hp2 q1 q2 q3 q4 q5 q6) hv]
      rw [ga_p (by omega), ga_p (by omega), gw_p (by omega), gk_e (e112 _)]
      unfold j_Ca_joinPlay_23
      rw [gwb_p ⟨hi, by decide⟩, gi_p ⟨hp, hp2⟩, gU_k (show (16 : Nat) ≠ 15 by decide), gU_e, ga_p (by omega), gw_p ⟨hp, hp2⟩, gk_s]
      have := both (gU (gU t 15 (64 * p + v) 0) 16 p (t 16 p - 1)) (gU t' 12 (64 * p + v) 0) ((r0.upC (by decide)).upC (by decide) |>.upM (by decide)) (evict_B N1 hp hp2 hvb.1 hvb.2 hv.2.1) (fun k k1 k2 => by rw [gU_k k2, gU_k k1]) (fun k k1 => by rw [gU_k k1]) (fun i i1 i2 => by
        rw [gU_at]
        have := s12 i i1 i2
        have := s12 (64 * p + v) (by omega) (by omega)
        split
        · rcases hbs (64 * p + v) (by omega) (by omega) with z | z <;> omega
        · exact s12 i i1 i2) (fun _ => by rw [gU_e]; omega)
      rw [gU_k (show (15 : Nat) ≠ 16 by decide), gU_i (show 64 * p + b ≠ 64 * p + v by omega), if_pos hbe, gU_e] at this
      have em : gU (gU (gU (gU t' 6 l (t' 0 18)) 10 (64 * p + b) 1) 11 (64 * p + b) 0) 12 (64 * p + v) 0 = gU (gU (gU (gU t' 12 (64 * p + v) 0) 6 l (t' 0 18)) 10 (64 * p + b) 1) 11 (64 * p + b) 0 := by
        rw [gU_c (show (11 : Nat) ≠ 12 by decide), gU_c (show (10 : Nat) ≠ 12 by decide), gU_c (show (6 : Nat) ≠ 12 by decide)]
      rw [em]
      have e18 : gU (gU (gU (gU t' 12 (64 * p + v) 0) 6 l (t' 0 18)) 10 (64 * p + b) 1) 11 (64 * p + b) 0 0 18 = t' 0 18 := by rw [gU_k (by decide), gU_k (by decide), gU_k (by decide), gU_k (by decide)]
      rw [e18]
      exact this
  · have h12 : ¬ t' 12 (64 * p + b) = 0 := by rcases ni with z | z <;> omega
    rw [if_neg hbe, if_neg h12, gk_e (e112 _), e0]
    have := both t t' r0 N1 (fun _ _ _ => rfl) (fun _ _ => rfl) s12 (fun z => absurd z hbe)
    rw [if_neg hbe] at this
    exact this
