/-! a miss, whole -/
theorem twin_e {σ : gM} {p b : Int} (hp : 0 ≤ p) (hp2 : p < 2) (hb : 0 ≤ b) (hb2 : b < 64) : F_Ca_twinOf σ (64 * p + b) = some (σ, 64 * (1 - p) + b) := by
  unfold F_Ca_twinOf
  by_cases h : 64 * p + b < 64
  · rw [if_pos h, ga_p (by omega)]
    unfold j_Ca_twinOf_17
    rw [show 64 * p + b + 64 = 64 * (1 - p) + b by omega]
  · rw [if_neg h, ga_p (by omega)]
    unfold j_Ca_twinOf_17
    rw [show 64 * p + b - 64 = 64 * (1 - p) + b by omega]
theorem cause_R {E : Int → Prop} {e p b : Int} {σ τ : gM} (h : LnB E e σ τ) (hp : 0 ≤ p) (hp2 : p < 2) (hb : 0 ≤ b) (hb2 : b < 64) (hE : ¬ E (64 * p + b)) (he : 64 * p + b ≠ e) :
    ∃ c, F_Ca_causeOf σ (64 * p + b) = some (σ, c) ∧ F_Mo_causeOf τ p b = some (τ, c) ∧ 2 ≤ c ∧ c < 6 := by
  obtain ⟨-, hw, ht, hbs, -⟩ := h
  have h1 := hw _ (by omega) (by omega) hE
  have h2 := ht _ (by omega) (by omega) hE he
  have h3 := hbs _ (by omega) (by omega) hE
  have hg : 0 ≤ 64 * p + b ∧ 64 * p + b < 128 := by omega
  unfold F_Ca_causeOf F_Mo_causeOf
  rw [ga_p (by omega), ga_p (by omega)]
  simp only [gi_p hg]
  rcases h1 with ⟨w1, w2⟩ | ⟨w1, w2⟩
  · rw [if_neg (show ¬ σ 13 (64 * p + b) = 0 by omega), if_neg (show ¬ τ 10 (64 * p + b) = 0 by omega), h2.1]
    by_cases t0 : τ 11 (64 * p + b) = 0
    · rw [if_pos t0, if_pos t0]
      rcases h3 with ⟨s1, s2, -⟩ | ⟨s1, s2⟩
      · rw [if_neg (show ¬ σ 15 (64 * p + b) = 0 by omega), if_neg (show ¬ τ 12 (64 * p + b) = 0 by omega)]
        exact ⟨5, rfl, rfl, by decide, by decide⟩
      · rw [if_pos s1, if_pos s2]
        exact ⟨4, rfl, rfl, by decide, by decide⟩
    · rw [if_neg t0, if_neg t0]
      exact ⟨3, rfl, rfl, by decide, by decide⟩
  · rw [if_pos w2, if_pos w1]
    exact ⟨2, rfl, rfl, by decide, by decide⟩
/-- a block's line comes: from the way that was free to the line that isn't asked yet -/
theorem ins_A {B p b l : Int} {σ τ s s' : gM} (hA : LnA B (-1) σ τ) (hp : 0 ≤ p) (hp2 : p < 2) (hb : 0 ≤ b) (hb2 : b < 64) (hl : sb τ p b ≤ l) (hl2 : l < sb τ p b + τ 0 6) (hno : ∀ l, ¬ On τ p b l) (hfree : τ 4 l = -4) (hlt : ∀ p b l, 0 ≤ p → p < 2 → 0 ≤ b → b < 64 → On τ p b l → τ 7 l < τ 0 18)
    (a7 : s 9 7 = σ 9 7) (a8 : s 9 8 = σ 9 8) (a9 : s 9 9 = σ 9 9) (a10 : s 10 = gU σ 10 (64 * p + b) 1 10) (a11 : ∀ i, (i < 8 * (64 * p + b) ∨ 8 * (64 * p + b) + 8 ≤ i) → s 11 i = σ 11 i) (a12 : s 12 = gU σ 12 (64 * p + b) (σ 9 9) 12) (a13 : s 13 = σ 13) (a14 : s 14 = gU σ 14 (64 * p + b) 0 14)
    (c4 : s' 4 = gU τ 4 l b 4) (c5 : s' 5 = gU τ 5 l 0 5) (c6 : s' 6 = τ 6) (c7 : s' 7 = gU τ 7 l (τ 0 18) 7) (c8 : ∀ i, (i < 8 * l ∨ 8 * l + 8 ≤ i) → s' 8 i = τ 8 i) (c9 : ∀ i, i ≠ l → s' 9 i = τ 9 i) (c9b : 0 ≤ s' 9 l ∧ s' 9 l < 256) (d5 : s' 0 5 = τ 0 5) (d6 : s' 0 6 = τ 0 6) (d18 : s' 0 18 = τ 0 18) (hy : Byt s s' (64 * p + b) l) :
    LnA (B + 1) (64 * p + b) s s' ∧ On s' p b l ∧ (∀ p' b' l', 0 ≤ b' → 64 * p' + b' ≠ 64 * p + b → On s' p' b' l' → On τ p' b' l') := by
  obtain ⟨⟨hS, h7, h8, h9, h18⟩, L1, L2, L3, L4, L5, L6, TT⟩ := hA
  have hsb : ∀ p b, sb s' p b = sb τ p b := fun p b => by unfold sb; rw [d5, d6]
  have hS' : Shp s' := by unfold Shp; rw [d5, d6]; exact hS
  have qb := sb_bd hS p b
  have hon : ∀ p' b' l', 0 ≤ b' → (On s' p' b' l' ↔ (On τ p' b' l' ∧ l' ≠ l) ∨ (l' = l ∧ p' = p ∧ b' = b)) := by
    intro p' b' l' hb'
    unfold On
    rw [hsb, d6, c4, gU_at]
    by_cases he : l' = l
    · rw [if_pos he]
      constructor
      · rintro ⟨q1, q2, q3⟩
        refine Or.inr ⟨he, ?_, q3.symm⟩
        exact (sb_ap hS (p := p') (b := b') (p' := p) (b' := b) q1 q2 (by omega) (by omega)).1
      · rintro (⟨-, q⟩ | ⟨q1, q2, q3⟩)
        · exact absurd he q
        · rw [q2, q3, he]; exact ⟨hl, hl2, rfl⟩
    · rw [if_neg he]
      constructor
      · intro q; exact Or.inl ⟨q, he⟩
      · rintro (⟨q, -⟩ | ⟨q, -⟩)
        · exact q
        · exact absurd q he
  have hidx : ∀ p' b' l', 0 ≤ b' → b' < 64 → On τ p' b' l' → 64 * p' + b' ≠ 64 * p + b := fun p' b' l' q1 q2 q3 q4 => by
    obtain ⟨rfl, rfl⟩ := idx_inj hb hb2 q1 q2 q4
    exact hno l' q3
  refine ⟨⟨⟨hS', by rw [a7, d5]; exact h7, by rw [a8, d6]; exact h8, by rw [a9]; omega, by rw [d18]; omega⟩, fun p' b' l' q1 q2 q3 q4 o => ?_, fun p' b' q1 q2 q3 q4 => ?_, fun p' b' l1 l2 qa qb q o1 o2 => ?_, fun l' q1 q2 => ?_, fun p' b' l1 b2 l2 q1 q2 q3 q4 q5 q6 q7 o1 o2 => ?_, fun p' b' l' q1 q2 q3 q4 o => ?_, fun i q1 q2 => ?_⟩, (hon _ _ _ hb).mpr (Or.inr ⟨rfl, rfl, rfl⟩), fun p' b' l' q1 q2 q3 => ((hon _ _ _ q1).mp q3).elim (fun z => z.1) (fun z => absurd (by rw [z.2.1, z.2.2]) q2)⟩
  · rcases (hon _ _ _ q3).mp o with ⟨o1, o2⟩ | ⟨rfl, rfl, rfl⟩
    · have r := L1 p' b' l' q1 q2 q3 q4 o1
      have hi := hidx p' b' l' q3 q4 o1
      have lbd := o1.bd hS q1 q2
      rw [a10, gU_i hi, c5, gU_i o2, c9 l' o2]
      refine ⟨r.1, r.2.1, fun k k1 k2 => ?_⟩
      have := r.2.2 k k1 k2
      rw [c9 l' o2, a11 _ (by omega), c8 _ (by omega)]
      exact this
    · rw [a10, gU_e, c5, gU_e]
      exact ⟨⟨rfl, Or.inl rfl⟩, c9b, hy⟩
  · by_cases hi : 64 * p' + b' = 64 * p + b
    · obtain ⟨rfl, rfl⟩ := idx_inj hb hb2 q3 q4 hi
      exact Or.inr ⟨l, (hon _ _ _ q3).mpr (Or.inr ⟨rfl, rfl, rfl⟩)⟩
    · rw [a10, gU_i hi]
      refine (L2 p' b' q1 q2 q3 q4).imp id fun ⟨l', z⟩ => ⟨l', (hon _ _ _ q3).mpr (Or.inl ⟨z, fun e => ?_⟩)⟩
      subst e
      have := z.2.2
      omega
  · rcases (hon _ _ _ q).mp o1 with ⟨x1, x2⟩ | ⟨rfl, rfl, rfl⟩ <;> rcases (hon _ _ _ q).mp o2 with ⟨y1, y2⟩ | ⟨rfl, y2, y3⟩
    · exact L3 p' b' l1 l2 qa qb q x1 y1
    · rw [y2, y3] at x1; exact absurd x1 (hno l1)
    · exact absurd y1 (hno l2)
    · rfl
  · by_cases he : l' = l
    · subst he
      rw [c4, gU_e]
      exact Or.inr ⟨⟨hb, hb2⟩, p, ⟨hp, hp2⟩, (hon _ _ _ hb).mpr (Or.inr ⟨rfl, rfl, rfl⟩)⟩
    · rw [c4, gU_i he]
      rcases L4 l' q1 q2 with z | ⟨z, p', hp', z'⟩
      · exact Or.inl z
      · exact Or.inr ⟨z, p', hp', (hon _ _ _ z.1).mpr (Or.inl ⟨z', he⟩)⟩
  · rw [a12, c7, a13, c6]
    rcases (hon _ _ _ q3).mp o1 with ⟨x1, x2⟩ | ⟨rfl, rfl, rfl⟩ <;> rcases (hon _ _ _ q5).mp o2 with ⟨y1, y2⟩ | ⟨rfl, y2, y3⟩
    · have r := L5 p' b' l1 b2 l2 q1 q2 q3 q4 q5 q6 q7 x1 y1
      rw [gU_i (hidx p' b' l1 q3 q4 x1), gU_i (hidx p' b2 l2 q5 q6 y1), gU_i x2, gU_i y2]
      exact ⟨r.1, fun _ _ => r.2 (by omega) (by omega)⟩
    · subst y2; subst y3
      have r6 := (L6 p' b' l1 q1 q2 q3 q4 x1).2.2 (by omega)
      have := hlt p' b' l1 q1 q2 q3 q4 x1
      rw [gU_i (hidx p' b' l1 q3 q4 x1), gU_e, gU_i x2, gU_e]
      refine ⟨⟨by omega, by omega⟩, fun z1 z2 => absurd rfl z2⟩
    · have r6 := (L6 p' b2 l2 q1 q2 q5 q6 y1).2.2 (by omega)
      have := hlt p' b2 l2 q1 q2 q5 q6 y1
      rw [gU_e, gU_i (hidx p' b2 l2 q5 q6 y1), gU_e, gU_i y2]
      refine ⟨⟨by omega, by omega⟩, fun z1 z2 => absurd rfl z1⟩
    · exact absurd y3.symm q7
  · rw [a12, c7, c6, d18, a9]
    rcases (hon _ _ _ q3).mp o with ⟨o1, o2⟩ | ⟨rfl, rfl, rfl⟩
    · have r := L6 p' b' l' q1 q2 q3 q4 o1
      rw [gU_i o2, gU_i (hidx p' b' l' q3 q4 o1)]
      exact ⟨r.1, by omega, fun _ => r.2.2 (by omega)⟩
    · rw [gU_e, gU_e]
      exact ⟨by omega, by omega, fun z => absurd rfl z⟩
  · rw [a10, a14]
    by_cases hi : i = 64 * p + b
    · rw [hi, gU_e, gU_e]; exact Or.inr rfl
    · rw [gU_i hi, gU_i hi]; exact TT i q1 q2
/-- what a miss leaves -/
def FrM (σ τ : gM) (s s' : gM) : Prop := (∀ k, k ≠ 3 → k ≠ 4 → k ≠ 6 → k ≠ 7 → k ≠ 8 → k ≠ 9 → k ≠ 10 → k ≠ 11 → k ≠ 12 → k ≠ 13 → k ≠ 14 → k ≠ 15 → k ≠ 16 → s k = σ k) ∧ s 4 11 = σ 4 11 ∧ (∀ j, j ≠ 9 → s 9 j = σ 9 j) ∧
  (∀ k, k ≠ 0 → k ≠ 1 → k ≠ 2 → k ≠ 3 → k ≠ 29 → k ≠ 30 → (k < 4 ∨ 12 < k) → s' k = τ k) ∧ (∀ j, j ≠ 4 → j ≠ 18 → s' 0 j = τ 0 j)
theorem FrM.refl (σ τ : gM) : FrM σ τ σ τ := ⟨fun _ _ _ _ _ _ _ _ _ _ _ _ _ _ => rfl, rfl, fun _ _ => rfl, fun _ _ _ _ _ _ _ _ => rfl, fun _ _ _ => rfl⟩
theorem FrM.trans {σ τ s s' t t' : gM} (h : FrM σ τ s s') (h2 : FrM s s' t t') : FrM σ τ t t' :=
  ⟨fun k a b c d e f g h3 i j l m n => (h2.1 k a b c d e f g h3 i j l m n).trans (h.1 k a b c d e f g h3 i j l m n), h2.2.1.trans h.2.1, fun i hi => (h2.2.2.1 i hi).trans (h.2.2.1 i hi), fun k a b c d e f g => (h2.2.2.2.1 k a b c d e f g).trans (h.2.2.2.1 k a b c d e f g), fun i hi hj => (h2.2.2.2.2 i hi hj).trans (h.2.2.2.2 i hi hj)⟩
theorem FrV.frM {σ τ s s' : gM} (h : FrV σ τ s s') : FrM σ τ s s' :=
  ⟨fun k a b c d e _ g _ _ _ _ _ _ => h.1 k a b c d e g, h.2.1, fun j _ => by rw [h.1 9 (by decide) (by decide) (by decide) (by decide) (by decide) (by decide)], fun k a b c d e f g => h.2.2.1 k a b c d e f (by omega) (by omega), fun j hj _ => h.2.2.2 j hj⟩
/-- what the filling leaves -/
def FrF (σ τ : gM) (i l : Int) (s s' : gM) : Prop :=
  ((∀ k, k ≠ 3 → k ≠ 4 → k ≠ 6 → k ≠ 7 → k ≠ 8 → k ≠ 11 → s k = σ k) ∧ s 4 11 = σ 4 11 ∧ (∀ j, (j < 8 * i ∨ 8 * i + 8 ≤ j) → s 11 j = σ 11 j)) ∧
  ((∀ k, k ≠ 0 → k ≠ 1 → k ≠ 2 → k ≠ 3 → k ≠ 29 → k ≠ 30 → k ≠ 8 → k ≠ 9 → s' k = τ k) ∧ (∀ j, j ≠ 4 → s' 0 j = τ 0 j) ∧ (∀ j, (j < 8 * l ∨ 8 * l + 8 ≤ j) → s' 8 j = τ 8 j) ∧ (∀ j, j ≠ l → s' 9 j = τ 9 j))
/-- a block's bytes are read into the line -/
theorem fill_R {B p b l : Int} {σ τ : gM} (h0 : R0 B σ τ) (hp : 0 ≤ p) (hp2 : p < 2) (hb : 0 ≤ b) (hb2 : b < 64) (hl : 0 ≤ l) (hl2 : l < 32) (h9 : τ 9 l = 0) (hB : B + 8 ≤ 1073741824) {k1 : gM → gO} {Q : gM → Int → gM → Int → Prop}
    (k : ∀ s s', R0 (B + 8) s s' → FrF σ τ (64 * p + b) l s s' → (0 ≤ s' 9 l ∧ s' 9 l < 256) → Byt s s' (64 * p + b) l → Sim (k1 s) (some (s', l)) Q) :
    Sim (gl1 (l_Ca_miss_123 k1 (64 * p + b) b) 200 σ 0) (gl1 (l_Mo_bring_119 b l) 200 τ 0) Q := by
  refine sim_gl1 (lo := 0) (hi := 8) (fun j s s' => R0 (B + j) s s' ∧ FrF σ τ (64 * p + b) l s s' ∧ (0 ≤ s' 9 l ∧ s' 9 l < 256) ∧ (∀ m, 0 ≤ m → m < 8 → (m < j → (s 11 (8 * (64 * p + b) + m) = -5 ∧ gBt (s' 9 l) m = 1) ∨ (gBt (s' 9 l) m = 0 ∧ s 11 (8 * (64 * p + b) + m) = s' 8 (8 * l + m) ∧ 0 ≤ s' 8 (8 * l + m) ∧ s' 8 (8 * l + m) ≤ 255)) ∧ (j ≤ m → gBt (s' 9 l) m = 0))) ?_ ?_ 200 200 0 σ τ (by omega) (by omega) (by omega) (by omega) ⟨h0.mono (by omega), ⟨⟨fun _ _ _ _ _ _ _ => rfl, rfl, fun _ _ => rfl⟩, ⟨fun _ _ _ _ _ _ _ _ _ => rfl, fun _ _ => rfl, fun _ _ => rfl, fun _ _ => rfl⟩⟩, by rw [h9]; omega, fun m m1 m2 => ⟨fun z => by omega, fun _ => by rw [h9]; exact gBt_0 m1 m2⟩⟩
  · rintro rec rec' j s s' j1 j2 ⟨hR, ⟨⟨fa, fb, fc⟩, ga, gb, gc, gd⟩, hm, hbyt⟩ ih
    unfold l_Ca_miss_123 l_Mo_bring_119
    rw [if_pos j2, if_pos j2, ga_p (by omega), ga_p (by omega), ga_p (by omega), ga_p (by omega), ga_p (by omega), ga_p (by omega), show (64 * p + b) * 8 + j = 8 * (64 * p + b) + j by omega, show b * 8 + j = 8 * b + j by omega]
    refine sim_read hR (by omega) (by omega) (by omega) fun t t' r hR2 hF hr => ?_
    have t11 : t 11 = s 11 := hF.1 11 (by decide) (by decide) (by decide) (by decide) (by decide)
    have t9 : t' 9 = s' 9 := hF.2.2.1 9 (by decide) (by decide) (by decide) (by decide) (by decide) (by decide)
    have t8 : t' 8 = s' 8 := hF.2.2.1 8 (by decide) (by decide) (by decide) (by decide) (by decide) (by decide)
    rw [gw_p (by omega), ga_p (by omega), gi_p ⟨hl, hl2⟩]
    have fin : ∀ x v9, (0 ≤ v9 ∧ v9 < 256) → (∀ m, 0 ≤ m → m < 8 → m ≠ j → gBt v9 m = gBt (s' 9 l) m) → ((r = -5 ∧ gBt v9 j = 1) ∨ (gBt v9 j = 0 ∧ r = x ∧ 0 ≤ x ∧ x ≤ 255)) → Sim (rec (gU t 11 (8 * (64 * p + b) + j) r) (j + 1)) (rec' (gU (gU t' 9 l v9) 8 (8 * l + j) x) (j + 1)) Q := by
      intro x v9 hv9 hother hnew
      have e9 : gU (gU t' 9 l v9) 8 (8 * l + j) x 9 l = v9 := by rw [gU_k (by decide), gU_e]
      refine ih _ _ ⟨((hR2.mono (show B + j + 1 ≤ B + (j + 1) by omega)).upC (by decide)).upM (by decide) |>.upM (by decide), ⟨⟨fun k h3 h4 h6 h7 h8 h11 => ?_, ?_, fun i hi => ?_⟩, ⟨fun k a0 a1 a2 a3 a29 a30 a8 a9 => ?_, fun k h4 => ?_, fun i hi => ?_, fun i hi => ?_⟩⟩, ?_, fun m m1 m2 => ⟨fun mj => ?_, fun mj => ?_⟩⟩
      · rw [gU_k h11, hF.1 k h3 h4 h6 h7 h8]; exact fa k h3 h4 h6 h7 h8 h11
      · rw [gU_k (by decide)]; exact hF.2.1.trans fb
      · rw [gU_i (by omega), t11]; exact fc i hi
      · rw [gU_k a8, gU_k a9, hF.2.2.1 k a0 a1 a2 a3 a29 a30]; exact ga k a0 a1 a2 a3 a29 a30 a8 a9
      · rw [gU_k (by decide), gU_k (by decide), hF.2.2.2 k h4]; exact gb k h4
      · rw [gU_i (by omega), gU_k (by decide), t8]; exact gc i hi
      · rw [gU_k (by decide), gU_i hi, t9]; exact gd i hi
      · rw [e9]; exact hv9
      · rw [e9]
        by_cases hmj : m = j
        · subst hmj
          rw [gU_e, gU_e]
          rcases hnew with ⟨n1, n2⟩ | ⟨n1, n2, n3, n4⟩
          · exact Or.inl ⟨n1, n2⟩
          · exact Or.inr ⟨n1, n2, n3, n4⟩
        · have := (hbyt m m1 m2).1 (by omega)
          rw [gU_i (by omega), gU_i (by omega), t11, gU_k (by decide), t8, hother m m1 m2 hmj]
          exact this
      · rw [e9, hother m m1 m2 (by omega)]
        exact (hbyt m m1 m2).2 (by omega)
    have hj0 := (hbyt j j1 j2).2 (by omega)
    rcases hr with rfl | hr
    · obtain ⟨o1, o2⟩ := gBt_or hm.1 hm.2 j1 j2
      rw [if_pos rfl]
      unfold j_Mo_bring_162_9 j_Mo_bring_189_8
      rw [gw_p ⟨hl, hl2⟩, ga_p (by omega), ga_p (by omega), if_pos rfl, gw_p (by omega), ga_p (by omega), t9]
      exact fin 0 _ o1 (fun m m1 m2 m3 => by rw [o2 m m1 m2, if_neg m3]) (Or.inl ⟨rfl, by rw [o2 j j1 j2, if_pos rfl]⟩)
    · rw [if_neg (show ¬ r = -5 by omega)]
      unfold j_Mo_bring_162_9 j_Mo_bring_189_8
      rw [gw_p ⟨hl, hl2⟩, ga_p (by omega), ga_p (by omega), if_neg (show ¬ r = -5 by omega), gw_p (by omega), ga_p (by omega), t9, gOr_0 hm.1 hm.2]
      exact fin r _ hm (fun _ _ _ _ => rfl) (Or.inr ⟨hj0, rfl, hr.1, hr.2⟩)
  · rintro rec rec' s s' ⟨hR, hF, hm, hbyt⟩
    unfold l_Ca_miss_123 l_Mo_bring_119
    rw [if_neg (by decide), if_neg (by decide)]
    exact k s s' (hR.mono (by omega)) hF hm fun m m1 m2 => (hbyt m m1 m2).1 m2
/-- behind the way's making: the line is brought -/
theorem bring_R {B p b l c : Int} {σ τ : gM} (h0 : R0 B σ τ) (hA : LnA B (-1) σ τ) (hN : LnB (fun _ => False) (-1) σ τ) (hp : 0 ≤ p) (hp2 : p < 2) (hb : 0 ≤ b) (hb2 : b < 64) (hl : sb τ p b ≤ l) (hl2 : l < sb τ p b + τ 0 6) (hno : ∀ l, ¬ On τ p b l) (hfree : τ 4 l = -4) (hlt : ∀ p b l, 0 ≤ p → p < 2 → 0 ≤ b → b < 64 → On τ p b l → τ 7 l < τ 0 18) (hc : 0 ≤ c) (hc2 : c < 8) (hB : B + 20 ≤ 1073741824) :
    Sim (j_Ca_miss_94 σ (64 * p + b) b c) (gk (F_Mo_openFor τ b) fun s3 _ => gk (F_Mo_tick s3 c 2) fun s4 _ => gw s4 4 32 l b fun s5 => gwb s5 5 32 l 0 fun s6 => gw s6 9 32 l 0 fun s7 => gw s7 7 32 l (s7 0 18) fun s8 => gl1 (l_Mo_bring_119 b l) 200 s8 0)
      (fun s r s' r' => r = 0 ∧ r' = l ∧ R0 (B + 20) s s' ∧ LnA (B + 20) (64 * p + b) s s' ∧ LnB (fun _ => False) (64 * p + b) s s' ∧ On s' p b l ∧ FrM σ τ s s' ∧ (s' 6 = τ 6 ∧ s' 12 = τ 12 ∧ s' 0 18 = τ 0 18 ∧ ∀ p' b' l', 0 ≤ b' → 64 * p' + b' ≠ 64 * p + b → On s' p' b' l' → On τ p' b' l')) := by
  have hS := hA.1.1
  have qb := sb_bd hS p b
  have hW : 0 < τ 0 6 ∧ τ 0 6 < 5 := by rcases hS.2 with h | h | h | h <;> omega
  have hbd : 0 ≤ l ∧ l < 32 := by omega
  unfold j_Ca_miss_94
  refine sim_open h0 hb hb2 (by omega) fun t t' hR1 hF1 => ?_
  refine sim_spend hR1 hc hc2 (by decide) (by omega) fun u u' hR2 hF2 => ?_
  have hF := hF1.trans hF2
  have hA2 := hA.sm hF.smA
  have hN2 := hN.sm hF.smA
  have u4 : u' 4 = τ 4 := hF.2.2.1 4 (by decide) (by decide) (by decide) (by decide) (by decide) (by decide)
  have u7 : u' 7 = τ 7 := hF.2.2.1 7 (by decide) (by decide) (by decide) (by decide) (by decide) (by decide)
  have u05 := hF.2.2.2 5 (by decide)
  have u06 := hF.2.2.2 6 (by decide)
  have u018 := hF.2.2.2 18 (by decide)
  have hon : ∀ p b l, On u' p b l ↔ On τ p b l := fun p b l => On_sm u4 u05 u06
  have hsb : sb u' p b = sb τ p b := by unfold sb; rw [u05, u06]
  rw [gw_p hbd, gwb_p ⟨hbd, by decide⟩, gw_p hbd, gw_p hbd]
  refine fill_R (B := B + 9) ?_ hp hp2 hb hb2 hbd.1 hbd.2 ?_ (by omega) fun s s' hR3 hF3 hm hy => ?_
  · exact (((hR2.mono (show B + 7 + 2 ≤ B + 9 by omega)).upM (by decide)).upM (by decide)).upM (by decide) |>.upM (by decide)
  · rw [gU_k (by decide), gU_e]
  · obtain ⟨⟨fa, fb, fc⟩, ga, gb, gc, gd⟩ := hF3
    have s9 : s 9 = u 9 := fa 9 (by decide) (by decide) (by decide) (by decide) (by decide) (by decide)
    have s10 : s 10 = u 10 := fa 10 (by decide) (by decide) (by decide) (by decide) (by decide) (by decide)
    have s12 : s 12 = u 12 := fa 12 (by decide) (by decide) (by decide) (by decide) (by decide) (by decide)
    have s13 : s 13 = u 13 := fa 13 (by decide) (by decide) (by decide) (by decide) (by decide) (by decide)
    have s14 : s 14 = u 14 := fa 14 (by decide) (by decide) (by decide) (by decide) (by decide) (by decide)
    have s15 : s 15 = u 15 := fa 15 (by decide) (by decide) (by decide) (by decide) (by decide) (by decide)
    have s16 : s 16 = u 16 := fa 16 (by decide) (by decide) (by decide) (by decide) (by decide) (by decide)
    have g4 := ga 4 (by decide) (by decide) (by decide) (by decide) (by decide) (by decide) (by decide) (by decide)
    have g5 := ga 5 (by decide) (by decide) (by decide) (by decide) (by decide) (by decide) (by decide) (by decide)
    have g6 := ga 6 (by decide) (by decide) (by decide) (by decide) (by decide) (by decide) (by decide) (by decide)
    have g7 := ga 7 (by decide) (by decide) (by decide) (by decide) (by decide) (by decide) (by decide) (by decide)
    have g10 := ga 10 (by decide) (by decide) (by decide) (by decide) (by decide) (by decide) (by decide) (by decide)
    have g11 := ga 11 (by decide) (by decide) (by decide) (by decide) (by decide) (by decide) (by decide) (by decide)
    have g12 := ga 12 (by decide) (by decide) (by decide) (by decide) (by decide) (by decide) (by decide) (by decide)
    have k99 := hA2.1.2.2.2.1
    have e99 : gU (gU s 10 (64 * p + b) 1) 14 (64 * p + b) 0 9 9 = u 9 9 := by rw [gU_k (by decide), gU_k (by decide), s9]
    rw [gw_p (by omega), gwb_p ⟨by omega, by decide⟩, gw_p (by omega), e99]
    have hins := ins_A (s := gU (gU (gU s 10 (64 * p + b) 1) 14 (64 * p + b) 0) 12 (64 * p + b) (u 9 9)) (s' := s') hA2 hp hp2 hb hb2 (l := l) (by rw [hsb]; exact hl) (by rw [hsb, u06]; exact hl2) (fun l' z => hno l' ((hon _ _ _).mp z)) (by rw [u4]; exact hfree) (fun p b l' q1 q2 q3 q4 z => by rw [u7, u018]; exact hlt p b l' q1 q2 q3 q4 ((hon _ _ _).mp z))
      (by rw [gU_k (by decide), gU_k (by decide), gU_k (by decide), s9]) (by rw [gU_k (by decide), gU_k (by decide), gU_k (by decide), s9]) (by rw [gU_k (by decide), gU_k (by decide), gU_k (by decide), s9]) (by rw [gU_k (by decide), gU_k (by decide)]; funext i; rw [gU_at, gU_at, s10]) (fun i hi => by rw [gU_k (by decide), gU_k (by decide), gU_k (by decide)]; exact fc i hi) (by funext i; rw [gU_at, gU_at, gU_k (by decide), gU_k (by decide), s12]) (by rw [gU_k (by decide), gU_k (by decide), gU_k (by decide), s13]) (by rw [gU_k (by decide)]; funext i; rw [gU_at, gU_at, gU_k (by decide), s14])
      (by rw [g4, gU_k (by decide), gU_k (by decide), gU_k (by decide)]) (by rw [g5, gU_k (by decide), gU_k (by decide)]; funext i; rw [gU_at, gU_at, gU_k (by decide)]) (by rw [g6, gU_k (by decide), gU_k (by decide), gU_k (by decide), gU_k (by decide)]) (by rw [g7]; funext i; rw [gU_at, gU_at, gU_k (by decide), gU_k (by decide), gU_k (by decide), gU_k (by decide), gU_k (by decide), gU_k (by decide)]) (fun i hi => by rw [gc i hi, gU_k (by decide), gU_k (by decide), gU_k (by decide), gU_k (by decide)]) (fun i hi => by rw [gd i hi, gU_k (by decide), gU_i hi, gU_k (by decide), gU_k (by decide)]) hm (by rw [gb 5 (by decide), gU_k (by decide), gU_k (by decide), gU_k (by decide), gU_k (by decide)]) (by rw [gb 6 (by decide), gU_k (by decide), gU_k (by decide), gU_k (by decide), gU_k (by decide)]) (by rw [gb 18 (by decide), gU_k (by decide), gU_k (by decide), gU_k (by decide), gU_k (by decide)])
      (fun m m1 m2 => by rw [gU_k (by decide), gU_k (by decide), gU_k (by decide)]; exact hy m m1 m2)
    refine sim_ret ⟨rfl, rfl, ?_, hins.1.mono (by omega), ?_, hins.2.1, ?_, ?_, ?_, ?_, fun p' b' l' q1 q2 q3 => (hon _ _ _).mp (hins.2.2 p' b' l' q1 q2 q3)⟩
    · exact ((hR3.mono (show B + 9 + 8 ≤ B + 20 by omega)).upC (by decide)).upC (by decide) |>.upC (by decide)
    · obtain ⟨n1, n2, n3, n4, n5, n6, n7⟩ := hN2
      have m18 : s' 0 18 = u' 0 18 := by rw [gb 18 (by decide), gU_k (by decide), gU_k (by decide), gU_k (by decide), gU_k (by decide)]
      have m5 : s' 0 5 = u' 0 5 := by rw [gb 5 (by decide), gU_k (by decide), gU_k (by decide), gU_k (by decide), gU_k (by decide)]
      have m6 : s' 0 6 = u' 0 6 := by rw [gb 6 (by decide), gU_k (by decide), gU_k (by decide), gU_k (by decide), gU_k (by decide)]
      have m10 : s' 10 = u' 10 := by rw [g10, gU_k (by decide), gU_k (by decide), gU_k (by decide), gU_k (by decide)]
      have m11 : s' 11 = u' 11 := by rw [g11, gU_k (by decide), gU_k (by decide), gU_k (by decide), gU_k (by decide)]
      have m12 : s' 12 = u' 12 := by rw [g12, gU_k (by decide), gU_k (by decide), gU_k (by decide), gU_k (by decide)]
      have z13 : gU (gU (gU s 10 (64 * p + b) 1) 14 (64 * p + b) 0) 12 (64 * p + b) (u 9 9) 13 = u 13 := by rw [gU_k (by decide), gU_k (by decide), gU_k (by decide), s13]
      have z15 : gU (gU (gU s 10 (64 * p + b) 1) 14 (64 * p + b) 0) 12 (64 * p + b) (u 9 9) 15 = u 15 := by rw [gU_k (by decide), gU_k (by decide), gU_k (by decide), s15]
      have z16 : gU (gU (gU s 10 (64 * p + b) 1) 14 (64 * p + b) 0) 12 (64 * p + b) (u 9 9) 16 = u 16 := by rw [gU_k (by decide), gU_k (by decide), gU_k (by decide), s16]
      unfold LnB
      rw [z13, z15, z16, m10, m11, m12, m18, m5, m6]
      refine ⟨fun i i1 i2 => ?_, n2, fun i i1 i2 i3 i4 => ?_, n4, n5, n6, n7⟩
      · rw [gU_k (by decide), gU_k (by decide), gU_k (by decide), s9]
        exact n1 i i1 i2
      · rw [gU_k (by decide), gU_i i4, gU_k (by decide), s14]
        exact n3 i i1 i2 i3 (by omega)
    · refine hF.frV.frM.trans ⟨fun k a b c d e f g h3 i j lm mm nn => ?_, ?_, fun j hj => ?_, fun k a b c d e f g => ?_, fun j hj hj2 => ?_⟩
      · rw [gU_k i, gU_k lm, gU_k g]; exact fa k a b c d e h3
      · rw [gU_k (by decide), gU_k (by decide), gU_k (by decide)]; exact fb
      · rw [gU_k (by decide), gU_k (by decide), gU_k (by decide), s9]
      · rw [ga k a b c d e f (by omega) (by omega), gU_k (by omega), gU_k (by omega), gU_k (by omega), gU_k (by omega)]
      · rw [gb j hj, gU_k (by decide), gU_k (by decide), gU_k (by decide), gU_k (by decide)]
    · rw [g6, gU_k (by decide), gU_k (by decide), gU_k (by decide), gU_k (by decide)]
      exact hF.2.2.1 6 (by decide) (by decide) (by decide) (by decide) (by decide) (by decide)
    · rw [g12, gU_k (by decide), gU_k (by decide), gU_k (by decide), gU_k (by decide)]
      exact hF.2.2.1 12 (by decide) (by decide) (by decide) (by decide) (by decide) (by decide)
    · rw [gb 18 (by decide), gU_k (by decide), gU_k (by decide), gU_k (by decide), gU_k (by decide)]
      exact u018
