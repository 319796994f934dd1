/-! storing a line; a line that goes -/
theorem idx_inj {p b p' b' : Int} (hb : 0 ≤ b) (hb2 : b < 64) (hb' : 0 ≤ b') (hb2' : b' < 64) (h : 64 * p' + b' = 64 * p + b) : p' = p ∧ b' = b := ⟨by omega, by omega⟩
theorem On_k {τ : gM} {k : Nat} {i v p b l : Int} (h4 : k ≠ 4) (h0 : k ≠ 0) : On (gU τ k i v) p b l ↔ On τ p b l :=
  On_sm (gU_k (Ne.symm h4)) (by rw [gU_k (Ne.symm h0)]) (by rw [gU_k (Ne.symm h0)])
theorem dirty_A {B e p b l d : Int} {σ τ : gM} (h : LnA B e σ τ) (hp : 0 ≤ p) (hp2 : p < 2) (hb : 0 ≤ b) (hb2 : b < 64) (hl : On τ p b l) (hd : d = 0 ∨ d = 1) : LnA B e (gU σ 10 (64 * p + b) (1 + d)) (gU τ 5 l d) := by
  obtain ⟨⟨hS, h7, h8, h9, h18⟩, L1, L2, L3, L4, L5, L6, TT⟩ := h
  have ho : ∀ p b l', On (gU τ 5 l d) p b l' ↔ On τ p b l' := fun p b l' => On_k (by decide) (by decide)
  have hst := (L1 p b l hp hp2 hb hb2 hl).1
  refine ⟨⟨hS, h7, h8, h9, h18⟩, fun p' b' l' q1 q2 q3 q4 hon => ?_, fun p' b' q1 q2 q3 q4 => ?_, fun p' b' l1 l2 qa qb q o1 o2 => ?_, fun l' q1 q2 => ?_, fun p' b' l1 b2 l2 q1 q2 q3 q4 q5 q6 q7 o1 o2 => ?_, fun p' b' l' q1 q2 q3 q4 hon => ?_, fun i q1 q2 => ?_⟩
  · rw [ho] at hon
    have r := L1 p' b' l' q1 q2 q3 q4 hon
    by_cases he : 64 * p' + b' = 64 * p + b
    · obtain ⟨rfl, rfl⟩ := idx_inj hb hb2 q3 q4 he
      obtain rfl := L3 p' b' l' l q1 q2 hb hon hl
      refine ⟨⟨by rw [gU_e, gU_e], by rw [gU_e]; exact hd⟩, r.2.1, r.2.2⟩
    · have hne : l' ≠ l := fun e => by
        subst e
        have := On.inj hS hon hl
        exact he (by rw [this.1, this.2])
      refine ⟨⟨by rw [gU_i he, gU_i hne]; exact r.1.1, by rw [gU_i hne]; exact r.1.2⟩, r.2.1, r.2.2⟩
  · by_cases he : 64 * p' + b' = 64 * p + b
    · obtain ⟨rfl, rfl⟩ := idx_inj hb hb2 q3 q4 he
      exact Or.inr ⟨l, (ho _ _ _).mpr hl⟩
    · rw [gU_i he]
      exact (L2 p' b' q1 q2 q3 q4).imp id fun ⟨l', q⟩ => ⟨l', (ho _ _ _).mpr q⟩
  · exact L3 p' b' l1 l2 qa qb q ((ho _ _ _).mp o1) ((ho _ _ _).mp o2)
  · rcases L4 l' q1 q2 with q | ⟨q, p', q', q''⟩
    · exact Or.inl q
    · exact Or.inr ⟨q, p', q', (ho _ _ _).mpr q''⟩
  · exact L5 p' b' l1 b2 l2 q1 q2 q3 q4 q5 q6 q7 ((ho _ _ _).mp o1) ((ho _ _ _).mp o2)
  · exact L6 p' b' l' q1 q2 q3 q4 ((ho _ _ _).mp hon)
  · by_cases he : i = 64 * p + b
    · subst he
      refine Or.inr ?_
      rcases TT _ q1 q2 with t | t
      · omega
      · exact t
    · rw [gU_i he]
      exact TT i q1 q2
theorem On_rem {τ : gM} {p b l l' : Int} (hb : 0 ≤ b) : On (gU τ 4 l (-4)) p b l' ↔ (On τ p b l' ∧ l' ≠ l) := by
  have e : sb (gU τ 4 l (-4)) p b = sb τ p b := rfl
  unfold On
  rw [e, gU_at]
  show _ ∧ l' < sb τ p b + τ 0 6 ∧ _ ↔ _
  by_cases he : l' = l
  · rw [if_pos he]
    constructor
    · intro q; omega
    · intro q; exact absurd he q.2
  · rw [if_neg he]
    exact ⟨fun q => ⟨q, he⟩, fun q => q.1⟩
theorem rem_A {B e p b l : Int} {σ τ : gM} (h : LnA B e σ τ) (hb : 0 ≤ b) (hb2 : b < 64) (hl : On τ p b l) : LnA B e (gU σ 10 (64 * p + b) 0) (gU τ 4 l (-4)) := by
  obtain ⟨⟨hS, h7, h8, h9, h18⟩, L1, L2, L3, L4, L5, L6, TT⟩ := h
  have ho : ∀ p b l', 0 ≤ b → (On (gU τ 4 l (-4)) p b l' ↔ (On τ p b l' ∧ l' ≠ l)) := fun p b l' hb => On_rem hb
  refine ⟨⟨hS, h7, h8, h9, h18⟩, fun p' b' l' q1 q2 q3 q4 hon => ?_, fun p' b' q1 q2 q3 q4 => ?_, fun p' b' l1 l2 qa qb q o1 o2 => ?_, fun l' q1 q2 => ?_, fun p' b' l1 b2 l2 q1 q2 q3 q4 q5 q6 q7 o1 o2 => ?_, fun p' b' l' q1 q2 q3 q4 hon => ?_, fun i q1 q2 => ?_⟩
  · rw [ho _ _ _ q3] at hon
    have r := L1 p' b' l' q1 q2 q3 q4 hon.1
    have he : 64 * p' + b' ≠ 64 * p + b := fun he => by
      obtain ⟨rfl, rfl⟩ := idx_inj hb hb2 q3 q4 he
      exact hon.2 (L3 p' b' l' l q1 q2 hb hon.1 hl)
    rw [gU_i he]
    exact r
  · by_cases he : 64 * p' + b' = 64 * p + b
    · rw [he, gU_e]; exact Or.inl rfl
    · rw [gU_i he]
      refine (L2 p' b' q1 q2 q3 q4).imp id fun ⟨l', q⟩ => ⟨l', (ho _ _ _ q3).mpr ⟨q, fun e => ?_⟩⟩
      subst e
      have := On.inj hS q hl
      exact he (by rw [this.1, this.2])
  · exact L3 p' b' l1 l2 qa qb q ((ho _ _ _ q).mp o1).1 ((ho _ _ _ q).mp o2).1
  · by_cases he : l' = l
    · subst he; rw [gU_e]; exact Or.inl rfl
    · rw [gU_i he]
      rcases L4 l' q1 q2 with q | ⟨q, p', q', q''⟩
      · exact Or.inl q
      · exact Or.inr ⟨q, p', q', (ho _ _ _ q.1).mpr ⟨q'', he⟩⟩
  · exact L5 p' b' l1 b2 l2 q1 q2 q3 q4 q5 q6 q7 ((ho _ _ _ q3).mp o1).1 ((ho _ _ _ q5).mp o2).1
  · exact L6 p' b' l' q1 q2 q3 q4 ((ho _ _ _ q3).mp hon).1
  · by_cases he : i = 64 * p + b
    · subst he; rw [gU_e]; exact Or.inl rfl
    · rw [gU_i he]; exact TT i q1 q2
/-- only the cells' bits have changed -/
def FrB (σ τ s s' : gM) : Prop := (∀ k, k ≠ 6 → s k = σ k) ∧ (∀ k, k ≠ 1 → s' k = τ k)
theorem FrB.fr {σ τ s s' : gM} (h : FrB σ τ s s') : Fr0 σ τ s s' :=
  ⟨fun k h1 h2 h3 h4 h5 => h.1 k h3, by rw [h.1 4 (by decide)], fun k h1 h2 h3 h4 h5 h6 => h.2 k h2, fun i _ => by rw [h.2 0 (by decide)]⟩
theorem wline_R {B e p b l : Int} {σ τ : gM} (h0 : R0 B σ τ) (hA : LnA B e σ τ) (hp : 0 ≤ p) (hp2 : p < 2) (hb : 0 ≤ b) (hb2 : b < 64) (hl : On τ p b l) :
    ∃ s s', j_Ca_store_35 σ (64 * p + b) b = some (gU s 10 (64 * p + b) 1, 0) ∧ F_Mo_writeLine τ l = some (gU s' 5 l 0, 0) ∧ R0 B s s' ∧ FrB σ τ s s' := by
  have hbd := hl.bd hA.1.1 hp hp2
  have hL1 := hA.2.1 p b l hp hp2 hb hb2 hl
  unfold j_Ca_store_35 F_Mo_writeLine
  have key : Sim (gl1 (l_Ca_store_38 (64 * p + b) b) 200 σ 0) (gl1 (l_Mo_writeLine_2 l) 200 τ 0) (fun s r s' r' => ∃ t t', s = gU t 10 (64 * p + b) 1 ∧ r = 0 ∧ s' = gU t' 5 l 0 ∧ r' = 0 ∧ R0 B t t' ∧ FrB σ τ t t') := by
    refine sim_gl1 (lo := 0) (hi := 8) (fun j t t' => R0 B t t' ∧ FrB σ τ t t') ?_ ?_ 200 200 0 σ τ (by omega) (by omega) (by omega) (by omega) ⟨h0, fun _ _ => rfl, fun _ _ => rfl⟩
    · rintro rec rec' j t t' j1 j2 ⟨hR, hF⟩ ih
      have hy := hL1.2.2 j j1 j2
      have e11 : t 11 = σ 11 := hF.1 11 (by decide)
      have e9 : t' 9 = τ 9 := hF.2 9 (by decide)
      have e4 : t' 4 l = b := by rw [hF.2 4 (by decide)]; exact hl.2.2
      have e8 : t' 8 = τ 8 := hF.2 8 (by decide)
      have egb : gAnd (gShr (t' 9 l) j) 1 = gBt (τ 9 l) j := by rw [e9]; rfl
      unfold l_Ca_store_38 l_Mo_writeLine_2 j_Ca_store_86 j_Mo_writeLine_51
      rw [if_pos j2, if_pos j2, ga_p (by omega), ga_p (by omega), gi_p (by omega), gv_p, gi_p (by omega), egb, e11, show (64 * p + b) * 8 + j = 8 * (64 * p + b) + j by omega]
      rcases hy with ⟨y1, y2⟩ | ⟨y1, y2, y3, y4⟩
      · rw [if_pos y1, if_neg (show ¬ gBt (τ 9 l) j = 0 by omega), ga_p (by omega), ga_p (by omega)]
        exact ih t t' ⟨hR, hF⟩
      · rw [if_neg (show ¬ σ 11 (8 * (64 * p + b) + j) = -5 by omega), if_pos y1, ga_p (by omega), ga_p (by omega), gi_p (by omega), e4, ga_p (by omega), ga_p (by omega), ga_p (by omega), ga_p (by omega), gi_p (by omega), e8, y2, gk_e (coded_i y3 (by omega)), gk_e (code_i y3 (by omega)), gw_p (by omega), gw_p (by omega), ga_p (by omega), ga_p (by omega)]
        obtain ⟨c1, c2⟩ := cC_ok y3 (show τ 8 (8 * l + j) < 256 by omega)
        have := bits_R (a := 8 * b + j) hR c1 c2
        rw [show b * 8 + j = 8 * b + j by omega]
        refine ih _ _ ⟨this.1, fun k hk => ?_, fun k hk => ?_⟩
        · rw [gU_k hk]; exact hF.1 k hk
        · rw [gU_k hk]; exact hF.2 k hk
    · rintro rec rec' t t' ⟨hR, hF⟩
      unfold l_Ca_store_38 l_Mo_writeLine_2
      rw [if_neg (by decide), if_neg (by decide), gw_p (by omega), gwb_p (by omega)]
      exact sim_ret ⟨t, t', rfl, rfl, rfl, rfl, hR, hF⟩
  obtain ⟨s, r, s', r', e1, e2, t, t', rfl, rfl, rfl, rfl, hR, hF⟩ := key
  exact ⟨t, t', e1, e2, hR, hF⟩
theorem R0.up {B : Int} {σ τ : gM} {k k' : Nat} {i v i' v' : Int} (h : R0 B σ τ) (hk : k ≠ 1 ∧ k ≠ 2 ∧ k ≠ 3 ∧ k ≠ 4 ∧ k ≠ 5 ∧ k ≠ 6 ∧ k ≠ 7 ∧ k ≠ 8) (hk' : k' ≠ 0 ∧ k' ≠ 1 ∧ k' ≠ 2 ∧ k' ≠ 3 ∧ k' ≠ 29 ∧ k' ≠ 30) : R0 B (gU σ k i v) (gU τ k' i' v') := by
  obtain ⟨a1, a2, a3, a4, a5, a6, a7, a8⟩ := hk
  obtain ⟨b0, b1, b2, b3, b29, b30⟩ := hk'
  unfold R0
  rw [gU_k a1.symm, gU_k a2.symm, gU_k a3.symm, gU_k a4.symm, gU_k a5.symm, gU_k a6.symm, gU_k a7.symm, gU_k a8.symm, gU_k b0.symm, gU_k b1.symm, gU_k b2.symm, gU_k b3.symm, gU_k b29.symm, gU_k b30.symm]
  exact h
theorem R0.upC {B : Int} {σ τ : gM} {k : Nat} {i v : Int} (h : R0 B σ τ) (hk : k ≠ 1 ∧ k ≠ 2 ∧ k ≠ 3 ∧ k ≠ 4 ∧ k ≠ 5 ∧ k ≠ 6 ∧ k ≠ 7 ∧ k ≠ 8) : R0 B (gU σ k i v) τ := by
  obtain ⟨a1, a2, a3, a4, a5, a6, a7, a8⟩ := hk
  unfold R0
  rw [gU_k a1.symm, gU_k a2.symm, gU_k a3.symm, gU_k a4.symm, gU_k a5.symm, gU_k a6.symm, gU_k a7.symm, gU_k a8.symm]
  exact h
theorem R0.upM {B : Int} {σ τ : gM} {k' : Nat} {i' v' : Int} (h : R0 B σ τ) (hk' : k' ≠ 0 ∧ k' ≠ 1 ∧ k' ≠ 2 ∧ k' ≠ 3 ∧ k' ≠ 29 ∧ k' ≠ 30) : R0 B σ (gU τ k' i' v') := by
  obtain ⟨b0, b1, b2, b3, b29, b30⟩ := hk'
  unfold R0
  rw [gU_k b0.symm, gU_k b1.symm, gU_k b2.symm, gU_k b3.symm, gU_k b29.symm, gU_k b30.symm]
  exact h
/-- what a store leaves -/
def FrS (σ τ : gM) (i l : Int) (s s' : gM) : Prop :=
  (∀ k, k ≠ 3 → k ≠ 4 → k ≠ 6 → k ≠ 7 → k ≠ 8 → k ≠ 10 → s k = σ k) ∧ s 4 11 = σ 4 11 ∧ (∀ j, j ≠ i → s 10 j = σ 10 j) ∧ s 10 i = 1 ∧
  (∀ k, k ≠ 0 → k ≠ 1 → k ≠ 2 → k ≠ 3 → k ≠ 29 → k ≠ 30 → k ≠ 5 → s' k = τ k) ∧ (∀ j, j ≠ 4 → s' 0 j = τ 0 j) ∧ (∀ j, j ≠ l → s' 5 j = τ 5 j) ∧ s' 5 l = 0
theorem stFr {σ τ s s' : gM} {i l : Int} (h : Fr0 σ τ s s') : FrS σ τ i l (gU s 10 i 1) (gU s' 5 l 0) := by
  obtain ⟨h1, h2, h3, h4⟩ := h
  refine ⟨fun k a b c d e f => by rw [gU_k f]; exact h1 k a b c d e, h2, fun j hj => by rw [gU_i hj, h1 10 (by decide) (by decide) (by decide) (by decide) (by decide)], gU_e, fun k a b c d e f g => by rw [gU_k g]; exact h3 k a b c d e f, fun j hj => h4 j hj, fun j hj => by rw [gU_i hj, h3 5 (by decide) (by decide) (by decide) (by decide) (by decide) (by decide)], gU_e⟩
/-- a store without ticks -/
theorem store0_R {B e p b l : Int} {σ τ : gM} (h0 : R0 B σ τ) (hA : LnA B e σ τ) (hp : 0 ≤ p) (hp2 : p < 2) (hb : 0 ≤ b) (hb2 : b < 64) (hl : On τ p b l) :
    ∃ s s', F_Ca_store σ (64 * p + b) (-1) = some (s, 0) ∧ F_Mo_writeLine τ l = some (s', 0) ∧ R0 B s s' ∧ LnA B e s s' ∧ FrS σ τ (64 * p + b) l s s' := by
  obtain ⟨s, s', e1, e2, hR, hF⟩ := wline_R h0 hA hp hp2 hb hb2 hl
  refine ⟨_, _, ?_, e2, hR.up (by decide) (by decide), ?_, stFr hF.fr⟩
  · unfold F_Ca_store
    rw [gd_p (by omega), gv_p, if_pos rfl, show (64 * p + b) % 64 = b by omega]
    exact e1
  · have hq := hA.sm hF.fr.smA
    exact dirty_A hq hp hp2 hb hb2 ((On_sm (hF.2 4 (by decide)) (by rw [hF.2 0 (by decide)]) (by rw [hF.2 0 (by decide)])).mpr hl) (Or.inl rfl)
/-- a store -/
theorem store_R {B e p b l c : Int} {σ τ : gM} (h0 : R0 B σ τ) (hA : LnA B e σ τ) (hp : 0 ≤ p) (hp2 : p < 2) (hb : 0 ≤ b) (hb2 : b < 64) (hl : On τ p b l) (hc : 0 ≤ c) (hc2 : c < 8) (hB : B + 9 ≤ 1073741824) :
    ∃ s s', F_Ca_store σ (64 * p + b) c = some (s, 0) ∧ F_Mo_store τ l c = some (s', 0) ∧ R0 (B + 9) s s' ∧ LnA (B + 9) e s s' ∧ FrS σ τ (64 * p + b) l s s' := by
  have hbd := hl.bd hA.1.1 hp hp2
  obtain ⟨s1, t, s2, s2', o1, o2, o3, r2, f2⟩ := open_R h0 hb hb2 (by omega)
  obtain ⟨s3, s3', p1, p2, r3, f3⟩ := spend_R (n := 2) (c := c) r2 hc hc2 (by decide) (by omega)
  have f := f2.trans f3
  have hA3 := (hA.sm f.smA).mono (show B ≤ B + 9 by omega)
  have hl3 : On s3' p b l := (On_sm (f.2.2.1 4 (by decide) (by decide) (by decide) (by decide) (by decide) (by decide)) (f.2.2.2 5 (by decide)) (f.2.2.2 6 (by decide))).mpr hl
  obtain ⟨s, s', e1, e2, hR, hF⟩ := wline_R (r3.mono (show B + 7 + 2 ≤ B + 9 by omega)) hA3 hp hp2 hb hb2 hl3
  refine ⟨gU s 10 (64 * p + b) 1, gU s' 5 l 0, ?_, ?_, hR.up (by decide) (by decide), ?_, stFr (f.trans hF.fr)⟩
  · unfold F_Ca_store
    rw [gd_p (by omega), gv_p, if_neg (show ¬ c = -1 by omega), show (64 * p + b) % 64 = b by omega, gk_e o1, gk_e o2, gk_e p1]
    exact e1
  · unfold F_Mo_store
    rw [gi_p (by omega), hl.2.2, gk_e o3, gk_e p2, gk_e e2]
  · have hq := hA3.sm hF.fr.smA
    exact dirty_A hq hp hp2 hb hb2 ((On_sm (hF.2 4 (by decide)) (by rw [hF.2 0 (by decide)]) (by rw [hF.2 0 (by decide)])).mpr hl3) (Or.inl rfl)
