/-! sending lines away: dismiss and drive -/
/-- joint loops whose counters stand d apart -/
theorem sim_gl1d {lo hi d : Int} {body body' : (gM → Int → gO) → gM → Int → gO} {Q : gM → Int → gM → Int → Prop} (I : Int → gM → gM → Prop)
    (hstep : ∀ rec rec' j s s', lo ≤ j → j < hi → I j s s' → (∀ t t', I (j + 1) t t' → Sim (rec t (j + 1)) (rec' t' (j + d + 1)) Q) → Sim (body rec s j) (body' rec' s' (j + d)) Q)
    (hend : ∀ rec rec' s s', I hi s s' → Sim (body rec s hi) (body' rec' s' (hi + d)) Q) :
    ∀ (n n' : Nat) (j : Int) (s s' : gM), lo ≤ j → j ≤ hi → hi - j < n → hi - j < n' → I j s s' → Sim (gl1 body n s j) (gl1 body' n' s' (j + d)) Q
  | 0, _, j, s, s', h1, h2, h3, h4, hI => by omega
  | n + 1, 0, j, s, s', h1, h2, h3, h4, hI => by omega
  | n + 1, n' + 1, j, s, s', h1, h2, h3, h4, hI => by
    show Sim (body (gl1 body n) s j) (body' (gl1 body' n') s' (j + d)) Q
    by_cases hj : j = hi
    · subst hj; exact hend _ _ s s' hI
    · refine hstep _ _ j s s' h1 (by omega) hI fun t t' hI' => ?_
      rw [show j + d + 1 = j + 1 + d by omega]
      exact sim_gl1d I hstep hend n n' (j + 1) t t' (by omega) (by omega) (by omega) (by omega) hI'
def clrC (σ : gM) (p i : Int) : gM := gU (if σ 15 i = 0 then gU (gU (gU σ 10 i 0) 13 i 0) 14 i 0 else gU (gU (gU (gU σ 10 i 0) 13 i 0) 14 i 0) 16 p (σ 16 p - 1)) 15 i 0
theorem clrC_e {σ : gM} {k1 : gM → gO} {rec : gM → Int → gO} {p1 p2 p3 p k i : Int} (hp : 0 ≤ p) (hp2 : p < 2) (hi : 0 ≤ i) (hi2 : i < 128) (hk : 0 ≤ k) (hk2 : k < 64) (h16 : -1000 ≤ σ 16 p ∧ σ 16 p ≤ 1000) :
    j_Ca_dismiss_48 k1 rec σ p1 p2 p3 p k i = rec (clrC σ p i) (k + 1) := by
  unfold j_Ca_dismiss_48 j_Ca_dismiss_93 clrC
  have e15 : gU (gU (gU σ 10 i 0) 13 i 0) 14 i 0 15 = σ 15 := by rw [gU_k (by decide), gU_k (by decide), gU_k (by decide)]
  have e16 : gU (gU (gU σ 10 i 0) 13 i 0) 14 i 0 16 = σ 16 := by rw [gU_k (by decide), gU_k (by decide), gU_k (by decide)]
  rw [gw_p ⟨hi, hi2⟩, gw_p ⟨hi, hi2⟩, gwb_p ⟨⟨hi, hi2⟩, by decide⟩, gi_p ⟨hi, hi2⟩, e15, e16]
  by_cases c : σ 15 i = 0
  · rw [if_pos c, if_pos c, gwb_p ⟨⟨hi, hi2⟩, by decide⟩, ga_p (by omega)]
  · rw [if_neg c, if_neg c, gi_p ⟨hp, hp2⟩, ga_p (by omega), gw_p ⟨hp, hp2⟩, gwb_p ⟨⟨hi, hi2⟩, by decide⟩, ga_p (by omega)]
theorem clrC_f {σ : gM} {p i : Int} (h : σ 15 i = 0 ∨ σ 15 i = 1) :
    (∀ k, k ≠ 10 → k ≠ 13 → k ≠ 14 → k ≠ 15 → k ≠ 16 → clrC σ p i k = σ k) ∧ clrC σ p i 10 = gU σ 10 i 0 10 ∧ clrC σ p i 13 = gU σ 13 i 0 13 ∧ clrC σ p i 14 = gU σ 14 i 0 14 ∧ clrC σ p i 15 = gU σ 15 i 0 15 ∧ clrC σ p i 16 = gU σ 16 p (σ 16 p - σ 15 i) 16 := by
  unfold clrC
  by_cases c : σ 15 i = 0
  · rw [if_pos c, c]
    refine ⟨fun k a b d e f => ?_, ?_, ?_, ?_, ?_, ?_⟩
    · rw [gU_k e, gU_k d, gU_k b, gU_k a]
    · rw [gU_k (by decide), gU_k (by decide), gU_k (by decide)]
    · rw [gU_k (by decide), gU_k (by decide)]; funext j; rw [gU_at, gU_at, gU_k (by decide)]
    · rw [gU_k (by decide)]; funext j; rw [gU_at, gU_at, gU_k (by decide), gU_k (by decide)]
    · funext j; rw [gU_at, gU_at, gU_k (by decide), gU_k (by decide), gU_k (by decide)]
    · rw [gU_k (by decide), gU_k (by decide), gU_k (by decide), gU_k (by decide)]
      funext j; rw [gU_at]; split
      · rename_i z; rw [z]; omega
      · rfl
  · have c1 : σ 15 i = 1 := by omega
    rw [if_neg c, c1]
    refine ⟨fun k a b d e f => ?_, ?_, ?_, ?_, ?_, ?_⟩
    · rw [gU_k e, gU_k f, gU_k d, gU_k b, gU_k a]
    · rw [gU_k (by decide), gU_k (by decide), gU_k (by decide), gU_k (by decide)]
    · rw [gU_k (by decide), gU_k (by decide), gU_k (by decide)]; funext j; rw [gU_at, gU_at, gU_k (by decide)]
    · rw [gU_k (by decide), gU_k (by decide)]; funext j; rw [gU_at, gU_at, gU_k (by decide), gU_k (by decide)]
    · funext j; rw [gU_at, gU_at, gU_k (by decide), gU_k (by decide), gU_k (by decide), gU_k (by decide)]
    · rw [gU_k (by decide)]; funext j; rw [gU_at, gU_at, gU_k (by decide), gU_k (by decide), gU_k (by decide)]
theorem clr_A {B e i : Int} {σ τ s : gM} (h : LnA B e σ τ) (h10 : σ 10 i = 0) (a9 : s 9 = σ 9) (a10 : s 10 = σ 10) (a11 : s 11 = σ 11) (a12 : s 12 = σ 12) (a13 : ∀ j, j ≠ i → s 13 j = σ 13 j) (a14 : ∀ j, j ≠ i → s 14 j = σ 14 j) : LnA B e s τ := by
  obtain ⟨⟨hS, h7, h8, h9, h18⟩, L1, L2, L3, L4, L5, L6, TT⟩ := h
  have hne : ∀ p b l, 0 ≤ p → p < 2 → 0 ≤ b → b < 64 → On τ p b l → 64 * p + b ≠ i := fun p b l q1 q2 q3 q4 o z => by
    have := (L1 p b l q1 q2 q3 q4 o).1
    rw [z] at this
    omega
  unfold LnA Byt
  simp only [a9, a10, a11, a12]
  refine ⟨⟨hS, h7, h8, h9, h18⟩, L1, L2, L3, L4, fun p b l b' l' q1 q2 q3 q4 q5 q6 q7 o o' => ?_, L6, fun j j1 j2 => ?_⟩
  · rw [a13 _ (hne p b l q1 q2 q3 q4 o), a13 _ (hne p b' l' q1 q2 q5 q6 o')]
    exact L5 p b l b' l' q1 q2 q3 q4 q5 q6 q7 o o'
  · by_cases c : j = i
    · rw [c]; exact Or.inl h10
    · rw [a14 _ c]; exact TT j j1 j2
theorem clr_B {E : Int → Prop} {p b : Int} {σ τ s s' : gM} (h : LnB E (-1) σ τ) (hp : 0 ≤ p) (hp2 : p < 2) (hb : 0 ≤ b) (hb2 : b < 64) (hE : ¬ E (64 * p + b))
    (a9 : s 9 9 = σ 9 9) (a13 : s 13 = gU σ 13 (64 * p + b) 0 13) (a14 : ∀ j, j ≠ 64 * p + b → s 14 j = σ 14 j) (a15 : s 15 = gU σ 15 (64 * p + b) 0 15) (a16 : s 16 = gU σ 16 p (σ 16 p - σ 15 (64 * p + b)) 16)
    (c10 : s' 10 = τ 10) (c11 : s' 11 = τ 11) (c12 : s' 12 = τ 12) (d5 : s' 0 5 = τ 0 5) (d6 : s' 0 6 = τ 0 6) (d18 : s' 0 18 = τ 0 18) : LnB (fun j => E j ∨ j = 64 * p + b) (-1) s s' := by
  obtain ⟨n1, n2, n3, n4, n5, n6, n7⟩ := h
  unfold LnB
  rw [a9, a13, a15, a16, c10, c11, c12, d5, d6, d18]
  refine ⟨fun i i1 i2 => ?_, fun i i1 i2 i3 => ?_, fun i i1 i2 i3 i4 => ?_, fun i i1 i2 i3 => ?_, fun i i1 i2 i3 => ?_, fun p' b1 b2 q1 q2 q3 q4 q5 q6 q7 q8 => ?_, fun p' q1 q2 => ?_⟩
  · rw [gU_at]
    have := n1 i i1 i2
    split <;> omega
  · rw [gU_i (fun z => i3 (Or.inr z))]; exact n2 i i1 i2 (fun z => i3 (Or.inl z))
  · rw [a14 _ (fun z => i3 (Or.inr z))]; exact n3 i i1 i2 (fun z => i3 (Or.inl z)) i4
  · have c : i ≠ 64 * p + b := fun z => i3 (Or.inr z)
    rw [gU_i c, gU_i c]; exact n4 i i1 i2 (fun z => i3 (Or.inl z))
  · rw [gU_at]
    by_cases c : i = 64 * p + b
    · rw [if_pos c]
    · rw [if_neg c]; exact n5 i i1 i2 (i3.resolve_right c)
  · rw [gU_at] at q7 q8
    have c1 : 64 * p' + b1 ≠ 64 * p + b := fun z => by rw [if_pos z] at q7; omega
    have c2 : 64 * p' + b2 ≠ 64 * p + b := fun z => by rw [if_pos z] at q8; omega
    rw [if_neg c1] at q7
    rw [if_neg c2] at q8
    rw [gU_i c1, gU_i c2]
    exact n6 p' b1 b2 q1 q2 q3 q4 q5 q6 q7 q8
  · have r := n7 p' q1 q2
    have h01 : σ 15 (64 * p + b) = 0 ∨ σ 15 (64 * p + b) = 1 := by rcases n4 _ (by omega) (by omega) hE with z | z <;> omega
    rw [gU_at]
    by_cases c : p' = p
    · subst c
      rw [if_pos rfl]
      have g1 := gcnt_upd (f := fun b => σ 15 (64 * p' + b)) (g := fun x => gU σ 15 (64 * p' + b) 0 15 (64 * p' + x)) (c := b) 64 hb hb2 (fun x hx => gU_i (by omega))
      rw [gU_e] at g1
      rw [g1]
      exact ⟨by omega, by omega⟩
    · rw [if_neg c]
      have := gcnt_congr (f := fun x => gU σ 15 (64 * p + b) 0 15 (64 * p' + x)) (g := fun x => σ 15 (64 * p' + x)) 64 (fun x b1 b2 => gU_i (by omega))
      rw [this]
      exact r
theorem LnB.E {E E' : Int → Prop} {e : Int} {σ τ : gM} (h : LnB E e σ τ) (hE : ∀ i, 0 ≤ i → i < 128 → (E i ↔ E' i)) : LnB E' e σ τ := by
  obtain ⟨n1, n2, n3, n4, n5, n6, n7⟩ := h
  exact ⟨n1, fun i i1 i2 i3 => n2 i i1 i2 (fun z => i3 ((hE i i1 i2).mp z)), fun i i1 i2 i3 => n3 i i1 i2 (fun z => i3 ((hE i i1 i2).mp z)), fun i i1 i2 i3 => n4 i i1 i2 (fun z => i3 ((hE i i1 i2).mp z)), fun i i1 i2 i3 => n5 i i1 i2 ((hE i i1 i2).mpr i3), n6, n7⟩
/-- while lines go: of those in E the class has forgotten all -/
def Dr (B : Int) (E : Int → Prop) (σ τ : gM) : Prop := R0 B σ τ ∧ LnA B (-1) σ τ ∧ LnB E (-1) σ τ ∧ ∀ i, 0 ≤ i → i < 128 → E i → σ 10 i = 0 ∧ σ 13 i = 0 ∧ σ 14 i = 0 ∧ σ 15 i = 0
theorem Dr.mono {B B' : Int} {E : Int → Prop} {σ τ : gM} (h : Dr B E σ τ) (hb : B ≤ B') : Dr B' E σ τ := ⟨h.1.mono hb, h.2.1.mono hb, h.2.2⟩
theorem Dr.E {B : Int} {E E' : Int → Prop} {σ τ : gM} (h : Dr B E σ τ) (hE : ∀ i, 0 ≤ i → i < 128 → (E i ↔ E' i)) : Dr B E' σ τ :=
  ⟨h.1, h.2.1, h.2.2.1.E hE, fun i i1 i2 i3 => h.2.2.2 i i1 i2 ((hE i i1 i2).mpr i3)⟩
/-- the clearing of one -/
theorem clr_R {B : Int} {E : Int → Prop} {p b : Int} {σ τ s s' : gM} (h : Dr B E σ τ) (hp : 0 ≤ p) (hp2 : p < 2) (hb : 0 ≤ b) (hb2 : b < 64) (hE : ¬ E (64 * p + b)) (q0 : R0 B s s') (qA : LnA B (-1) s s') (h10 : s 10 (64 * p + b) = 0) (hs : ∀ j, j ≠ 64 * p + b → s 10 j = σ 10 j) (hB : LnB E (-1) s s') (e13 : s 13 = σ 13) (e14 : s 14 = σ 14) (e15 : s 15 = σ 15) : Dr B (fun j => E j ∨ j = 64 * p + b) (clrC s p (64 * p + b)) s' := by
  have h01 : s 15 (64 * p + b) = 0 ∨ s 15 (64 * p + b) = 1 := by rcases hB.2.2.2.1 _ (by omega) (by omega) hE with z | z <;> omega
  obtain ⟨f0, f10, f13, f14, f15, f16⟩ := clrC_f (p := p) h01
  have g10 : clrC s p (64 * p + b) 10 = s 10 := by
    rw [f10]; funext j; rw [gU_at]; split
    · rename_i z; rw [z, h10]
    · rfl
  refine ⟨?_, ?_, ?_, fun i i1 i2 i3 => ?_⟩
  · unfold R0
    rw [f0 1 (by decide) (by decide) (by decide) (by decide) (by decide), f0 2 (by decide) (by decide) (by decide) (by decide) (by decide), f0 3 (by decide) (by decide) (by decide) (by decide) (by decide), f0 4 (by decide) (by decide) (by decide) (by decide) (by decide), f0 5 (by decide) (by decide) (by decide) (by decide) (by decide), f0 6 (by decide) (by decide) (by decide) (by decide) (by decide), f0 7 (by decide) (by decide) (by decide) (by decide) (by decide), f0 8 (by decide) (by decide) (by decide) (by decide) (by decide)]
    exact q0
  · exact clr_A qA h10 (f0 9 (by decide) (by decide) (by decide) (by decide) (by decide)) g10 (f0 11 (by decide) (by decide) (by decide) (by decide) (by decide)) (f0 12 (by decide) (by decide) (by decide) (by decide) (by decide)) (fun j hj => by rw [f13, gU_i hj]) (fun j hj => by rw [f14, gU_i hj])
  · exact clr_B hB hp hp2 hb hb2 hE (by rw [f0 9 (by decide) (by decide) (by decide) (by decide) (by decide)]) f13 (fun j hj => by rw [f14, gU_i hj]) f15 f16 rfl rfl rfl rfl rfl rfl
  · rw [g10, f13, f14, f15]
    by_cases c : i = 64 * p + b
    · rw [c, gU_e, gU_e, gU_e]; exact ⟨h10, rfl, rfl, rfl⟩
    · rw [gU_i c, gU_i c, gU_i c, hs i c, e13, e14, e15]
      exact h.2.2.2 i i1 i2 (i3.resolve_right c)
/-- what driving leaves -/
theorem clr_fr {σ τ s s' : gM} {p i : Int} (h : FrM σ τ s s') (h01 : s 15 i = 0 ∨ s 15 i = 1) : FrM σ τ (clrC s p i) s' := by
  obtain ⟨f0, -, -, -, -, -⟩ := clrC_f (p := p) h01
  exact h.trans ⟨fun k a b c d e f g h i j l m n => f0 k g j l m n, by rw [f0 4 (by decide) (by decide) (by decide) (by decide) (by decide)], fun j _ => by rw [f0 9 (by decide) (by decide) (by decide) (by decide) (by decide)], fun k _ _ _ _ _ _ _ => rfl, fun j _ _ => rfl⟩
/-- one block's way out, of one processor -/
theorem out_R {B : Int} {E : Int → Prop} {p b f n c t k : Int} {σ τ : gM} {k1 k1' : gM → gO} {rec rec' : gM → Int → gO} {Q : gM → Int → gM → Int → Prop} (h : Dr B E σ τ) (hp : 0 ≤ p) (hp2 : p < 2) (hf : 0 ≤ f) (hk : 0 ≤ k) (hkn : k < n) (hfn : f + n ≤ 64) (hbk : b = f + k) (hE : ¬ E (64 * p + b)) (hc : (c = -1 ∧ t = 0) ∨ (c = 6 ∧ t ≠ 0)) (hB : B + 9 ≤ 1073741824)
    (ih : ∀ s s', Dr (B + 9) (fun j => E j ∨ j = 64 * p + b) s s' → FrM σ τ s s' → s' 0 18 = τ 0 18 → Sim (rec s (k + 1)) (rec' s' (b + 1)) Q) :
    Sim (l_Ca_dismiss_12 k1 f n c p rec σ k) (l_Mo_drive_12 k1' f (f + n - 1) t p rec' τ b) Q := by
  have hb : 0 ≤ b := by omega
  have hb2 : b < 64 := by omega
  obtain ⟨h0, hA, hN, hZ⟩ := id h
  have h16 : -1000 ≤ σ 16 p ∧ σ 16 p ≤ 1000 := by
    have r := hN.2.2.2.2.2.2 p hp hp2
    have := gcnt_le (f := fun b => σ 15 (64 * p + b)) 64 (fun x b1 b2 => by
      by_cases c : E (64 * p + x)
      · have := hN.2.2.2.2.1 (64 * p + x) (by omega) (by omega) c; omega
      · rcases hN.2.2.2.1 (64 * p + x) (by omega) (by omega) c with z | z <;> omega)
    omega
  have h01 : σ 15 (64 * p + b) = 0 ∨ σ 15 (64 * p + b) = 1 := by rcases hN.2.2.2.1 _ (by omega) (by omega) hE with z | z <;> omega
  unfold l_Ca_dismiss_12 l_Mo_drive_12
  rw [if_pos hkn, if_neg (show ¬ f + n - 1 < b by omega), ga_p (by omega), ga_p (by omega), ga_p (by omega), show p * 64 + f + k = 64 * p + b by omega, gi_p (by omega)]
  rcases find_R hA hp hp2 hb hb2 with ⟨z1, z2, z3⟩ | ⟨l, l1, l2, l3, l4, l5⟩
  · rw [if_neg (show ¬ σ 10 (64 * p + b) = 2 by omega), clrC_e hp hp2 (by omega) (by omega) hk (by omega) h16, gk_e z2, if_pos rfl]
    unfold j_Mo_drive_75
    rw [ga_p (by omega)]
    exact ih _ _ ((clr_R h hp hp2 hb hb2 hE h0 hA z1 (fun _ _ => rfl) hN rfl rfl rfl).mono (by omega)) (clr_fr (FrM.refl _ _) h01) rfl
  · -- behind the storing
    have rest : ∀ s s', R0 (B + 9) s s' → LnA (B + 9) (-1) s s' → On s' p b l → FrV σ τ s s' → (∀ j, j ≠ 64 * p + b → s 10 j = σ 10 j) → Sim (j_Ca_dismiss_48 k1 rec s f n c p k (64 * p + b)) (j_Mo_drive_66 k1' rec' s' f (f + n - 1) t p b l) Q := by
      intro s s' r1 r2 r3 r4 r5
      have e13 : s 13 = σ 13 := r4.1 13 (by decide) (by decide) (by decide) (by decide) (by decide) (by decide)
      have e14 : s 14 = σ 14 := r4.1 14 (by decide) (by decide) (by decide) (by decide) (by decide) (by decide)
      have e15 : s 15 = σ 15 := r4.1 15 (by decide) (by decide) (by decide) (by decide) (by decide) (by decide)
      have e16 : s 16 = σ 16 := r4.1 16 (by decide) (by decide) (by decide) (by decide) (by decide) (by decide)
      unfold j_Mo_drive_66 j_Mo_drive_75
      rw [clrC_e hp hp2 (by omega) (by omega) hk (by omega) (by rw [e16]; exact h16), gw_p l1, ga_p (by omega)]
      have A2 := rem_A r2 hb hb2 r3
      have same : clrC s p (64 * p + b) = clrC (gU s 10 (64 * p + b) 0) p (64 * p + b) := by
        have e : gU (gU s 10 (64 * p + b) 0) 10 (64 * p + b) 0 = gU s 10 (64 * p + b) 0 := by
          funext q j
          unfold gU
          split <;> rfl
        unfold clrC
        rw [e]
        rfl
      have fr : FrM σ τ (gU s 10 (64 * p + b) 0) (gU s' 4 l (-4)) := r4.frM.trans ⟨fun k a b c d e f g h i j l m n => by rw [gU_k g], by rw [gU_k (by decide)], fun j _ => by rw [gU_k (by decide)], fun k a b c d e f g => by rw [gU_k (by omega)], fun j _ _ => by rw [gU_k (by decide)]⟩
      have N2 : LnB E (-1) (gU s 10 (64 * p + b) 0) (gU s' 4 l (-4)) := hN.smB r4.smB
      rw [same]
      refine ih _ _ (clr_R (h.mono (by omega)) hp hp2 hb hb2 hE (r1.up (by decide) (by decide)) A2 gU_e (fun j hj => by rw [gU_i hj]; exact r5 j hj) N2 e13 e14 e15) (clr_fr fr (by rw [gU_k (show (15 : Nat) ≠ 10 by decide), e15]; exact h01)) ?_
      show s' 0 18 = τ 0 18
      exact r4.2.2.2 18 (by decide)
    rw [gk_e l3, if_neg (show ¬ l = -4 by omega), gi_p l1]
    by_cases d : τ 5 l = 0
    · rw [if_neg (show ¬ σ 10 (64 * p + b) = 2 by omega), if_pos d]
      exact rest σ τ (h0.mono (by omega)) (hA.mono (by omega)) l2 (FrV.refl _ _) (fun _ _ => rfl)
    · rw [if_pos (show σ 10 (64 * p + b) = 2 by omega), if_neg d]
      rcases hc with ⟨rfl, rfl⟩ | ⟨rfl, ht⟩
      · obtain ⟨s, s', u1, u2, u3, u4, u5⟩ := store0_R h0 hA hp hp2 hb hb2 l2
        rw [gk_e u1, if_pos rfl, gk_e u2]
        have f := u5.frV
        exact rest s s' (u3.mono (by omega)) (u4.mono (by omega)) ((On_sm (u5.2.2.2.2.1 4 (by decide) (by decide) (by decide) (by decide) (by decide) (by decide) (by decide)) (f.2.2.2 5 (by decide)) (f.2.2.2 6 (by decide))).mpr l2) f u5.2.2.1
      · obtain ⟨s, s', u1, u2, u3, u4, u5⟩ := store_R h0 hA hp hp2 hb hb2 l2 (show 0 ≤ (6 : Int) by decide) (by decide) hB
        rw [gk_e u1, if_neg ht, gk_e u2]
        have f := u5.frV
        exact rest s s' u3 u4 ((On_sm (u5.2.2.2.2.1 4 (by decide) (by decide) (by decide) (by decide) (by decide) (by decide) (by decide)) (f.2.2.2 5 (by decide)) (f.2.2.2 6 (by decide))).mpr l2) f u5.2.2.1
def fgM (τ : gM) (i : Int) : gM := gU (gU (gU τ 10 i 0) 11 i 0) 12 i 0
theorem forget_e {τ : gM} {b : Int} (hb : 0 ≤ b) (hb2 : b < 64) : F_Mo_forget τ b = some (fgM (fgM τ b) (64 + b), 0) := by
  unfold F_Mo_forget
  show l_Mo_forget_2 b (l_Mo_forget_2 b (l_Mo_forget_2 b (gl1 (l_Mo_forget_2 b) 197))) τ 0 = _
  have one : ∀ (rec : gM → Int → gO) (s : gM) (p : Int), 0 ≤ p → p < 2 → l_Mo_forget_2 b rec s p = rec (fgM s (64 * p + b)) (p + 1) := by
    intro rec s p h1 h2
    unfold l_Mo_forget_2
    rw [if_pos h2, ga_p (by omega), ga_p (by omega), gwb_p ⟨by omega, by decide⟩, ga_p (by omega), ga_p (by omega), gwb_p ⟨by omega, by decide⟩, ga_p (by omega), ga_p (by omega), gw_p (by omega), ga_p (by omega)]
    rfl
  rw [one _ _ _ (by decide) (by decide)]
  show l_Mo_forget_2 b (l_Mo_forget_2 b (gl1 (l_Mo_forget_2 b) 197)) _ 1 = _
  rw [one _ _ _ (by decide) (by decide)]
  show l_Mo_forget_2 b (gl1 (l_Mo_forget_2 b) 197) _ 2 = _
  unfold l_Mo_forget_2
  rw [if_neg (by decide), show 64 * (0 : Int) + b = b by omega, show 64 * (1 : Int) + b = 64 + b by omega]
theorem fgM_f {τ : gM} {i : Int} : (∀ k, k ≠ 10 → k ≠ 11 → k ≠ 12 → fgM τ i k = τ k) ∧ ∀ j, fgM τ i 10 j = (if j = i then 0 else τ 10 j) ∧ fgM τ i 11 j = (if j = i then 0 else τ 11 j) ∧ fgM τ i 12 j = (if j = i then 0 else τ 12 j) := by
  unfold fgM
  refine ⟨fun k a b c => by rw [gU_k c, gU_k b, gU_k a], fun j => ⟨?_, ?_, ?_⟩⟩
  · rw [gU_k (by decide), gU_k (by decide), gU_at]
  · rw [gU_k (by decide), gU_at, gU_k (by decide)]
  · rw [gU_at, gU_k (by decide), gU_k (by decide)]
theorem forget_R {B b m : Int} {σ τ : gM} (h : Dr B (fun i => b ≤ i % 64 ∧ i % 64 < m) σ τ) (hb : 0 ≤ b) (hb2 : b < m) (hm : m ≤ 64) : Dr B (fun i => b + 1 ≤ i % 64 ∧ i % 64 < m) σ (fgM (fgM τ b) (64 + b)) := by
  obtain ⟨h0, hA, ⟨n1, n2, n3, n4, n5, n6, n7⟩, hZ⟩ := h
  have k0 : ∀ k, k ≠ 10 → k ≠ 11 → k ≠ 12 → fgM (fgM τ b) (64 + b) k = τ k := fun k a c d => by rw [fgM_f.1 k a c d, fgM_f.1 k a c d]
  have v : ∀ i, 0 ≤ i → i < 128 → fgM (fgM τ b) (64 + b) 10 i = (if i % 64 = b then 0 else τ 10 i) ∧ fgM (fgM τ b) (64 + b) 11 i = (if i % 64 = b then 0 else τ 11 i) ∧ fgM (fgM τ b) (64 + b) 12 i = (if i % 64 = b then 0 else τ 12 i) := by
    intro i i1 i2
    obtain ⟨x1, x2, x3⟩ := (fgM_f (τ := fgM τ b) (i := 64 + b)).2 i
    obtain ⟨y1, y2, y3⟩ := (fgM_f (τ := τ) (i := b)).2 i
    rw [x1, x2, x3, y1, y2, y3]
    by_cases c : i % 64 = b
    · rw [if_pos c, if_pos c, if_pos c]
      by_cases c1 : i = 64 + b
      · rw [if_pos c1, if_pos c1, if_pos c1]; exact ⟨rfl, rfl, rfl⟩
      · rw [if_neg c1, if_neg c1, if_neg c1, if_pos (show i = b by omega), if_pos (show i = b by omega), if_pos (show i = b by omega)]; exact ⟨rfl, rfl, rfl⟩
    · rw [if_neg c, if_neg c, if_neg c, if_neg (show ¬ i = 64 + b by omega), if_neg (show ¬ i = 64 + b by omega), if_neg (show ¬ i = 64 + b by omega), if_neg (show ¬ i = b by omega), if_neg (show ¬ i = b by omega), if_neg (show ¬ i = b by omega)]
      exact ⟨rfl, rfl, rfl⟩
  refine ⟨?_, ?_, ?_, fun i i1 i2 i3 => hZ i i1 i2 (by omega)⟩
  · unfold R0
    rw [k0 0 (by decide) (by decide) (by decide), k0 1 (by decide) (by decide) (by decide), k0 2 (by decide) (by decide) (by decide), k0 3 (by decide) (by decide) (by decide), k0 29 (by decide) (by decide) (by decide), k0 30 (by decide) (by decide) (by decide)]
    exact h0
  · refine hA.smL ⟨⟨rfl, rfl, rfl, rfl, rfl, rfl⟩, ⟨k0 4 (by decide) (by decide) (by decide), k0 5 (by decide) (by decide) (by decide), k0 6 (by decide) (by decide) (by decide), k0 7 (by decide) (by decide) (by decide), k0 8 (by decide) (by decide) (by decide), k0 9 (by decide) (by decide) (by decide)⟩, ?_, ?_, ?_⟩ <;> rw [k0 0 (by decide) (by decide) (by decide)]
  · unfold LnB
    rw [k0 0 (by decide) (by decide) (by decide)]
    refine ⟨n1, fun i i1 i2 i3 => ?_, fun i i1 i2 i3 i4 => ?_, fun i i1 i2 i3 => ?_, fun i i1 i2 i3 => n5 i i1 i2 (by omega), fun p' b1 b2 q1 q2 q3 q4 q5 q6 q7 q8 => ?_, n7⟩
    · rw [(v i i1 i2).1]
      by_cases c : i % 64 = b
      · rw [if_pos c]; exact Or.inr ⟨rfl, (hZ i i1 i2 (by omega)).2.1⟩
      · rw [if_neg c]; exact n2 i i1 i2 (by omega)
    · rw [(v i i1 i2).2.1]
      by_cases c : i % 64 = b
      · rw [if_pos c]; exact ⟨(hZ i i1 i2 (by omega)).2.2.1, Or.inl rfl⟩
      · rw [if_neg c]; exact n3 i i1 i2 (by omega) i4
    · rw [(v i i1 i2).2.2]
      by_cases c : i % 64 = b
      · rw [if_pos c]; exact Or.inr ⟨(hZ i i1 i2 (by omega)).2.2.2, rfl⟩
      · rw [if_neg c]; exact n4 i i1 i2 (by omega)
    · have c1 : ¬ (64 * p' + b1) % 64 = b := fun z => by have := (hZ (64 * p' + b1) (by omega) (by omega) (by omega)).2.2.2; omega
      have c2 : ¬ (64 * p' + b2) % 64 = b := fun z => by have := (hZ (64 * p' + b2) (by omega) (by omega) (by omega)).2.2.2; omega
      rw [(v _ (by omega) (by omega)).2.2, (v _ (by omega) (by omega)).2.2, if_neg c1, if_neg c2]
      exact n6 p' b1 b2 q1 q2 q3 q4 q5 q6 q7 q8
theorem drive_R {B D f n c t : Int} {σ τ : gM} (h0 : R0 B σ τ) (hL : Ln B σ τ) (hf : 0 ≤ f) (hn : 0 ≤ n) (hfn : f + n ≤ 64) (hc : (c = -1 ∧ t = 0) ∨ (c = 6 ∧ t ≠ 0)) (hD : 18 * n + 40 ≤ D) (hB : B + D ≤ 1073741824) :
    Sim (F_Ca_dismiss σ f n c) (F_Mo_drive τ f (f + n - 1) t) (fun s r s' r' => R0 (B + D) s s' ∧ Ln (B + D) s s' ∧ FrM σ τ s s' ∧ s' 0 18 = τ 0 18 ∧ ∀ p b, 0 ≤ p → p < 2 → f ≤ b → b < f + n → s 10 (64 * p + b) = 0 ∧ s 15 (64 * p + b) = 0) := by
  unfold F_Ca_dismiss F_Mo_drive
  refine sim_gl1 (lo := 0) (hi := 2) (fun p s s' => Dr (B + 9 * n * p) (fun i => (f ≤ i % 64 ∧ i % 64 < f + n) ∧ i / 64 < p) s s' ∧ FrM σ τ s s' ∧ s' 0 18 = τ 0 18) ?_ ?_ 200 200 0 σ τ (by omega) (by omega) (by omega) (by omega) ⟨⟨h0.mono (by omega), hL.1.mono (by omega), hL.2.E (fun i i1 i2 => ⟨fun z => z.elim, fun z => by omega⟩), fun i i1 i2 i3 => by omega⟩, FrM.refl _ _, rfl⟩
  · rintro rec rec' p s s' p1 p2 ⟨hD, hF, h18⟩ ih
    unfold l_Ca_dismiss_3 l_Mo_drive_3
    rw [if_pos p2, if_pos p2]
    have hnp : 9 * n * p = 0 ∨ 9 * n * p = 9 * n := by
      rcases (show p = 0 ∨ p = 1 by omega) with z | z <;> subst z
      · exact Or.inl (by omega)
      · exact Or.inr (by omega)
    have key := sim_gl1d (lo := 0) (hi := n) (d := f) (body := l_Ca_dismiss_12 (fun s1 => ga (p + 1) fun a2 => rec s1 a2) f n c p) (body' := l_Mo_drive_12 (fun s1 => ga (p + 1) fun a2 => rec' s1 a2) f (f + n - 1) t p) (Q := fun s r s' r' => R0 (B + D) s s' ∧ Ln (B + D) s s' ∧ FrM σ τ s s' ∧ s' 0 18 = τ 0 18 ∧ ∀ p b, 0 ≤ p → p < 2 → f ≤ b → b < f + n → s 10 (64 * p + b) = 0 ∧ s 15 (64 * p + b) = 0)
      (fun k s s' => Dr (B + 9 * n * p + 9 * k) (fun i => (f ≤ i % 64 ∧ i % 64 < f + n) ∧ (i / 64 < p ∨ i / 64 = p ∧ i % 64 < f + k)) s s' ∧ FrM σ τ s s' ∧ s' 0 18 = τ 0 18) ?_ ?_ 200 200 0 s s' (by omega) (by omega) (by omega) (by omega) ⟨(hD.E (fun i i1 i2 => by omega)).mono (by omega), hF, h18⟩
    · rw [show 0 + f = f by omega] at key
      exact key
    · rintro r r' k u u' k1 k2 ⟨uD, uF, u18⟩ ih2
      refine out_R uD p1 p2 hf k1 k2 hfn (by omega) (by omega) hc (by omega) fun w w' wD wF w18 => ?_
      refine ih2 w w' ⟨(wD.E (fun i i1 i2 => by omega)).mono (by omega), uF.trans wF, w18.trans u18⟩
    · rintro r r' u u' ⟨uD, uF, u18⟩
      unfold l_Ca_dismiss_12 l_Mo_drive_12
      rw [if_neg (show ¬ n < n by omega), if_pos (show f + n - 1 < n + f by omega)]
      dsimp only
      rw [ga_p (by omega), ga_p (by omega)]
      refine ih u u' ⟨(uD.E (fun i i1 i2 => by omega)).mono ?_, uF, u18⟩
      rcases (show p = 0 ∨ p = 1 by omega) with z | z <;> subst z <;> omega
  · rintro rec rec' s s' ⟨hD, hF, h18⟩
    unfold l_Ca_dismiss_3 l_Mo_drive_3
    rw [if_neg (by decide), if_neg (by decide)]
    have hz := hD.2.2.2
    refine to_gl1 (lo := f) (hi := f + n) (R := fun o => Sim (some (s, 0)) o _) (fun b u => Dr (B + D) (fun i => b ≤ i % 64 ∧ i % 64 < f + n) s u ∧ FrM σ τ s u ∧ u 0 18 = τ 0 18) ?_ ?_ 200 f s' (by omega) (by omega) (by omega) ⟨(hD.E (fun i i1 i2 => by omega)).mono (by omega), hF, h18⟩
    · rintro r b u b1 b2 ⟨uD, uF, u18⟩ ih
      unfold l_Mo_drive_90
      rw [if_neg (show ¬ f + n - 1 < b by omega), gk_e (forget_e (by omega) (by omega)), ga_p (by omega)]
      have k0 : ∀ k, k ≠ 10 → k ≠ 11 → k ≠ 12 → fgM (fgM u b) (64 + b) k = u k := fun k a c d => by rw [fgM_f.1 k a c d, fgM_f.1 k a c d]
      refine ih _ ⟨forget_R uD (by omega) b2 hfn, ⟨uF.1, uF.2.1, uF.2.2.1, fun k a b c d e f g => ?_, fun j j1 j2 => ?_⟩, ?_⟩
      · rw [k0 k (by omega) (by omega) (by omega)]; exact uF.2.2.2.1 k a b c d e f g
      · rw [k0 0 (by decide) (by decide) (by decide)]; exact uF.2.2.2.2 j j1 j2
      · rw [k0 0 (by decide) (by decide) (by decide)]; exact u18
    · rintro r u ⟨uD, uF, u18⟩
      unfold l_Mo_drive_90
      rw [if_pos (show f + n - 1 < f + n by omega)]
      refine sim_ret ⟨uD.1, ⟨uD.2.1, uD.2.2.1.E (fun i i1 i2 => ⟨fun z => by omega, fun z => z.elim⟩)⟩, uF, u18, fun p b p1 p2 b1 b2 => ?_⟩
      have := hz (64 * p + b) (by omega) (by omega) (by omega)
      exact ⟨this.1, this.2.2.2⟩
