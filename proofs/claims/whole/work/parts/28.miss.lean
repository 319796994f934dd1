/-! a miss -/
theorem roomF_free {τ : gM} {p b0 c : Int} (hS : Shp τ) (hp : 0 ≤ p) (hp2 : p < 2) (hb : 0 ≤ b0) (hb2 : b0 < 64) (h : ∃ l, sb τ p b0 ≤ l ∧ l < sb τ p b0 + τ 0 6 ∧ τ 4 l = -4) :
    ∃ l, F_Mo_roomFor τ p b0 c = some (τ, l) ∧ sb τ p b0 ≤ l ∧ l < sb τ p b0 + τ 0 6 ∧ τ 4 l = -4 := by
  have q := sb_bd hS p b0
  have hW : 0 < τ 0 6 ∧ τ 0 6 < 5 := by rcases hS.2 with h | h | h | h <;> omega
  have hSS : 0 < τ 0 5 ∧ τ 0 5 < 5 := by rcases hS.1 with h | h | h <;> omega
  obtain ⟨lf, f1, f2, f3⟩ := h
  have hq : 16 * p + τ 0 6 * (b0 % τ 0 5) = sb τ p b0 := rfl
  unfold F_Mo_roomFor
  rw [ga_p (by omega), gd_p (by omega), ga_p (by omega), ga_p (by omega), hq]
  refine to_gl2 (lo := sb τ p b0) (hi := sb τ p b0 + τ 0 6) (R := fun o => ∃ l, o = some (τ, l) ∧ sb τ p b0 ≤ l ∧ l < sb τ p b0 + τ 0 6 ∧ τ 4 l = -4) (fun j s v => s = τ ∧ j ≤ lf ∧ (v = -4 ∨ (sb τ p b0 ≤ v ∧ v < j))) ?_ ?_ 200 (sb τ p b0) τ (-4) (by omega) (by omega) (by omega) ⟨rfl, by omega, Or.inl rfl⟩
  · rintro rec j s v j1 j2 ⟨rfl, hj, hv⟩ ih
    unfold l_Mo_roomFor_26
    rw [ga_p (by omega), if_pos j2, gi_p (by omega)]
    by_cases c0 : s 4 j = -4
    · rw [if_pos c0]; exact ⟨j, rfl, j1, j2, c0⟩
    · have hlt : j < lf := by
        rcases (show j < lf ∨ j = lf by omega) with z | z
        · exact z
        · rw [z] at c0; exact absurd f3 c0
      rw [if_neg c0]
      rcases hv with rfl | ⟨v1, v2⟩
      · rw [if_pos rfl]
        unfold j_Mo_roomFor_170
        rw [ga_p (by omega)]
        exact ih s _ ⟨rfl, by omega, Or.inr ⟨by omega, by omega⟩⟩
      · rw [if_neg (by omega)]
        have fin : ∀ t0, (∃ l, j_Mo_roomFor_154 (fun s5 b4 => gi b4 32 (if s5 5 b4 = 0 then j_Mo_roomFor_193 s5 b4 else gk (F_Mo_store s5 b4 c) fun s6 _ => j_Mo_roomFor_193 s6 b4)) rec s c (sb s p b0) v j t0 = some (s, l) ∧ sb s p b0 ≤ l ∧ l < sb s p b0 + s 0 6 ∧ s 4 l = -4) := by
          intro t0
          unfold j_Mo_roomFor_154 j_Mo_roomFor_168 j_Mo_roomFor_170
          split
          · rw [ga_p (by omega)]; exact ih s _ ⟨rfl, by omega, Or.inr ⟨by omega, by omega⟩⟩
          · rw [ga_p (by omega)]; exact ih s _ ⟨rfl, by omega, Or.inr ⟨by omega, by omega⟩⟩
        split
        · rw [gi_p (by omega), gi_p (by omega)]
          split
          · exact fin 1
          · exact fin 0
        · split
          · rw [gi_p (by omega), gi_p (by omega)]
            split
            · exact fin 1
            · exact fin 0
          · rw [gi_p (by omega), gi_p (by omega)]
            split
            · exact fin 1
            · exact fin 0
  · rintro rec s v ⟨rfl, hj, hv⟩
    omega
theorem roomF_full {τ : gM} {p b0 c : Int} (hS : Shp τ) (hp : 0 ≤ p) (hp2 : p < 2) (hb : 0 ≤ b0) (hb2 : b0 < 64) (h : ¬ ∃ l, sb τ p b0 ≤ l ∧ l < sb τ p b0 + τ 0 6 ∧ τ 4 l = -4) :
    ∃ l, F_Mo_roomFor τ p b0 c = (gi l 32 (if τ 5 l = 0 then j_Mo_roomFor_193 τ l else gk (F_Mo_store τ l c) fun s6 _ => j_Mo_roomFor_193 s6 l)) ∧ sb τ p b0 ≤ l ∧ l < sb τ p b0 + τ 0 6 ∧ ∀ l', sb τ p b0 ≤ l' → l' < sb τ p b0 + τ 0 6 → kyM τ l ≤ kyM τ l' := by
  have q := sb_bd hS p b0
  have hW : 0 < τ 0 6 ∧ τ 0 6 < 5 := by rcases hS.2 with h | h | h | h <;> omega
  have hSS : 0 < τ 0 5 ∧ τ 0 5 < 5 := by rcases hS.1 with h | h | h <;> omega
  have hq : 16 * p + τ 0 6 * (b0 % τ 0 5) = sb τ p b0 := rfl
  unfold F_Mo_roomFor
  rw [ga_p (by omega), gd_p (by omega), ga_p (by omega), ga_p (by omega), hq]
  refine to_gl2 (lo := sb τ p b0) (hi := sb τ p b0 + τ 0 6) (R := fun o => ∃ l, o = (gi l 32 (if τ 5 l = 0 then j_Mo_roomFor_193 τ l else gk (F_Mo_store τ l c) fun s6 _ => j_Mo_roomFor_193 s6 l)) ∧ sb τ p b0 ≤ l ∧ l < sb τ p b0 + τ 0 6 ∧ ∀ l', sb τ p b0 ≤ l' → l' < sb τ p b0 + τ 0 6 → kyM τ l ≤ kyM τ l') (fun j s v => s = τ ∧ ((v = -4 ∧ j = sb τ p b0) ∨ (sb τ p b0 ≤ v ∧ v < j ∧ ∀ l', sb τ p b0 ≤ l' → l' < j → kyM τ v ≤ kyM τ l'))) ?_ ?_ 200 (sb τ p b0) τ (-4) (by omega) (by omega) (by omega) ⟨rfl, Or.inl ⟨rfl, rfl⟩⟩
  · rintro rec j s v j1 j2 ⟨rfl, hv⟩ ih
    unfold l_Mo_roomFor_26
    rw [ga_p (by omega), if_pos j2, gi_p (by omega), if_neg (fun z => h ⟨j, j1, j2, z⟩)]
    rcases hv with ⟨rfl, rfl⟩ | ⟨v1, v2, v3⟩
    · rw [if_pos rfl]
      unfold j_Mo_roomFor_170
      rw [ga_p (by omega)]
      refine ih s _ ⟨rfl, Or.inr ⟨by omega, by omega, fun l' a1 a2 => ?_⟩⟩
      have : l' = sb s p b0 := by omega
      rw [this]; exact Int.le_refl _
    · rw [if_neg (by omega)]
      have fin : ∀ t0, ((t0 = 1 ∧ kyM s j < kyM s v) ∨ (t0 = 0 ∧ ¬ kyM s j < kyM s v)) → (∃ l, j_Mo_roomFor_154 (fun s5 b4 => gi b4 32 (if s5 5 b4 = 0 then j_Mo_roomFor_193 s5 b4 else gk (F_Mo_store s5 b4 c) fun s6 _ => j_Mo_roomFor_193 s6 b4)) rec s c (sb s p b0) v j t0 = (gi l 32 (if s 5 l = 0 then j_Mo_roomFor_193 s l else gk (F_Mo_store s l c) fun s6 _ => j_Mo_roomFor_193 s6 l)) ∧ sb s p b0 ≤ l ∧ l < sb s p b0 + s 0 6 ∧ ∀ l', sb s p b0 ≤ l' → l' < sb s p b0 + s 0 6 → kyM s l ≤ kyM s l') := by
        intro t0 ht
        unfold j_Mo_roomFor_154 j_Mo_roomFor_168 j_Mo_roomFor_170
        rcases ht with ⟨rfl, ht⟩ | ⟨rfl, ht⟩
        · rw [if_neg (by decide), ga_p (by omega)]
          refine ih s _ ⟨rfl, Or.inr ⟨by omega, by omega, fun l' a1 a2 => ?_⟩⟩
          rcases (show l' < j ∨ l' = j by omega) with z | rfl
          · have := v3 l' a1 z; omega
          · exact Int.le_refl _
        · rw [if_pos rfl, ga_p (by omega)]
          refine ih s _ ⟨rfl, Or.inr ⟨by omega, by omega, fun l' a1 a2 => ?_⟩⟩
          rcases (show l' < j ∨ l' = j by omega) with z | rfl
          · exact v3 l' a1 z
          · omega
      unfold kyM at fin
      by_cases q0 : s 0 7 = 0
      · simp only [q0, if_true] at fin ⊢
        rw [gi_p (by omega), gi_p (by omega)]
        by_cases z : s 6 j < s 6 v
        · rw [if_pos z]; simpa [kyM, q0] using fin 1 (Or.inl ⟨rfl, z⟩)
        · rw [if_neg z]; simpa [kyM, q0] using fin 0 (Or.inr ⟨rfl, z⟩)
      · by_cases q1 : s 0 7 = 1
        · simp only [q0, q1, if_true, if_false] at fin ⊢
          rw [if_neg (by decide)]
          rw [gi_p (by omega), gi_p (by omega)]
          by_cases z : s 7 j < s 7 v
          · rw [if_pos z]; simpa [kyM, q0, q1] using fin 1 (Or.inl ⟨by rfl, by simpa using z⟩)
          · rw [if_neg z]; simpa [kyM, q0, q1] using fin 0 (Or.inr ⟨rfl, by simpa using z⟩)
        · simp only [q0, q1, if_false] at fin ⊢
          rw [gi_p (by omega), gi_p (by omega)]
          by_cases z : s 4 j < s 4 v
          · rw [if_pos z]; simpa [kyM, q0, q1] using fin 1 (Or.inl ⟨rfl, z⟩)
          · rw [if_neg z]; simpa [kyM, q0, q1] using fin 0 (Or.inr ⟨rfl, z⟩)
  · rintro rec s v ⟨rfl, hv⟩
    unfold l_Mo_roomFor_26
    rw [ga_p (by omega), if_neg (Int.lt_irrefl _)]
    rcases hv with ⟨rfl, hv⟩ | ⟨v1, v2, v3⟩
    · omega
    · exact ⟨v, rfl, v1, v2, v3⟩
/-- what the blocks' part reads -/
def SmB (σ τ s s' : gM) : Prop := (s 9 9 = σ 9 9 ∧ s 13 = σ 13 ∧ s 14 = σ 14 ∧ s 15 = σ 15 ∧ s 16 = σ 16) ∧ (s' 10 = τ 10 ∧ s' 11 = τ 11 ∧ s' 12 = τ 12) ∧ s' 0 5 = τ 0 5 ∧ s' 0 6 = τ 0 6 ∧ s' 0 18 = τ 0 18
theorem LnB.smB {E : Int → Prop} {e : Int} {σ τ s s' : gM} (h : LnB E e σ τ) (q : SmB σ τ s s') : LnB E e s s' := by
  obtain ⟨⟨a9, a13, a14, a15, a16⟩, ⟨c10, c11, c12⟩, d5, d6, d18⟩ := q
  unfold LnB
  simp only [a9, a13, a14, a15, a16, c10, c11, c12, d5, d6, d18]
  exact h
/-- what a way's making leaves -/
def FrV (σ τ s s' : gM) : Prop := (∀ k, k ≠ 3 → k ≠ 4 → k ≠ 6 → k ≠ 7 → k ≠ 8 → k ≠ 10 → s k = σ k) ∧ s 4 11 = σ 4 11 ∧ (∀ k, k ≠ 0 → k ≠ 1 → k ≠ 2 → k ≠ 3 → k ≠ 29 → k ≠ 30 → k ≠ 4 → k ≠ 5 → s' k = τ k) ∧ (∀ j, j ≠ 4 → s' 0 j = τ 0 j)
theorem FrV.refl (σ τ : gM) : FrV σ τ σ τ := ⟨fun _ _ _ _ _ _ _ => rfl, rfl, fun _ _ _ _ _ _ _ _ _ => rfl, fun _ _ => rfl⟩
theorem FrV.trans {σ τ s s' t t' : gM} (h : FrV σ τ s s') (h2 : FrV s s' t t') : FrV σ τ t t' :=
  ⟨fun k a b c d e f => (h2.1 k a b c d e f).trans (h.1 k a b c d e f), h2.2.1.trans h.2.1, fun k a b c d e f g i => (h2.2.2.1 k a b c d e f g i).trans (h.2.2.1 k a b c d e f g i), fun i hi => (h2.2.2.2 i hi).trans (h.2.2.2 i hi)⟩
theorem FrS.frV {σ τ s s' : gM} {i l : Int} (h : FrS σ τ i l s s') : FrV σ τ s s' :=
  ⟨h.1, h.2.1, fun k a b c d e f _ g => h.2.2.2.2.1 k a b c d e f g, h.2.2.2.2.2.1⟩
theorem Fr0.frV {σ τ s s' : gM} (h : Fr0 σ τ s s') : FrV σ τ s s' :=
  ⟨fun k a b c d e _ => h.1 k a b c d e, h.2.1, fun k a b c d e f _ _ => h.2.2.1 k a b c d e f, h.2.2.2⟩
theorem FrV.smB {σ τ s s' : gM} (h : FrV σ τ s s') : SmB σ τ s s' := by
  obtain ⟨h1, -, h2, h3⟩ := h
  refine ⟨⟨?_, ?_, ?_, ?_, ?_⟩, ⟨?_, ?_, ?_⟩, h3 5 (by decide), h3 6 (by decide), h3 18 (by decide)⟩
  all_goals first
    | rw [h1 _ (by decide) (by decide) (by decide) (by decide) (by decide) (by decide)]
    | exact h2 _ (by decide) (by decide) (by decide) (by decide) (by decide) (by decide) (by decide) (by decide)
theorem victim_R {B p b0 c : Int} {σ τ : gM} (h0 : R0 B σ τ) (hA : LnA B (-1) σ τ) (hp : 0 ≤ p) (hp2 : p < 2) (hb : 0 ≤ b0) (hb2 : b0 < 64) (hno : ∀ l, ¬ On τ p b0 l) (hc : 0 ≤ c) (hc2 : c < 8) (hB : B + 9 ≤ 1073741824) :
    ∃ s s' l, j_Ca_miss_53 σ (64 * p + b0) b0 c = j_Ca_miss_94 s (64 * p + b0) b0 c ∧ F_Mo_roomFor τ p b0 c = some (s', l) ∧ R0 (B + 9) s s' ∧ LnA (B + 9) (-1) s s' ∧ (sb s' p b0 ≤ l ∧ l < sb s' p b0 + s' 0 6) ∧ s' 4 l = -4 ∧ (∀ p b l, 0 ≤ b → On s' p b l → On τ p b l) ∧ FrV σ τ s s' := by
  have hS := hA.1.1
  have hW : 0 < τ 0 6 ∧ τ 0 6 < 5 := by rcases hS.2 with h | h | h | h <;> omega
  have qb := sb_bd hS p b0
  obtain ⟨a, ea, hfree, hfull⟩ := leavingFor_R h0 hA hp hp2 hb hb2
  unfold j_Ca_miss_53
  rw [gk_e ea]
  by_cases hf : ∃ l, sb τ p b0 ≤ l ∧ l < sb τ p b0 + τ 0 6 ∧ τ 4 l = -4
  · obtain ⟨l, e1, l1, l2, l3⟩ := roomF_free (c := c) hS hp hp2 hb hb2 hf
    rw [if_pos (hfree hf)]
    exact ⟨σ, τ, l, rfl, e1, h0.mono (by omega), hA.mono (by omega), ⟨l1, l2⟩, l3, fun _ _ _ _ z => z, FrV.refl σ τ⟩
  · obtain ⟨bx, x1, x2, x3, rfl, x5⟩ := hfull hf
    obtain ⟨l, e1, l1, l2, l3⟩ := roomF_full (c := c) hS hp hp2 hb hb2 hf
    -- the model's line is that of the class' block
    rcases hA.2.2.1 p bx hp hp2 x1 x2 with z | ⟨lx, hlx⟩
    · exact absurd z x3.2
    · have hsx := sb_eq (τ := τ) (p := p) x3.1
      have hx1 := hlx.1
      have hx2 := hlx.2.1
      have hl : l = lx := by
        rcases hA.2.2.2.2.1 l (by omega) (by omega) with z | ⟨z, p', hp', hon⟩
        · exact absurd ⟨l, l1, l2, z⟩ hf
        · obtain ⟨rfl, hm⟩ := sb_ap hS hon.1 hon.2.1 (p' := p) (b' := b0) l1 l2
          by_cases hbb : τ 4 l = bx
          · rw [hbb] at hon
            exact hA.2.2.2.1 p' bx l lx hp hp2 x1 hon hlx
          · exfalso
            have k1 := key_R h0 hA hp hp2 x1 x2 z.1 z.2 (Ne.symm hbb) hlx hon
            have hin : InS σ τ p' b0 (τ 4 l) := ⟨hm, by
              have := (hA.2.1 p' (τ 4 l) l hp hp2 z.1 z.2 hon).1
              omega⟩
            have := x5 (τ 4 l) z.1 z.2 hin hbb
            have := k1.2.mpr this
            have := l3 lx (by omega) (by omega)
            omega
      subst hl
      have hst := (hA.2.1 p bx l hp hp2 x1 x2 hlx).1
      have hbd := hlx.bd hS hp hp2
      rw [if_neg (show ¬ 64 * p + bx = -4 by omega), gi_p (by omega), e1, gi_p hbd]
      unfold j_Ca_miss_86 j_Mo_roomFor_193
      by_cases hd : τ 5 l = 0
      · rw [if_neg (show ¬ σ 10 (64 * p + bx) = 2 by omega), if_pos hd, gw_p (by omega), gw_p hbd]
        refine ⟨_, _, l, rfl, rfl, (h0.mono (show B ≤ B + 9 by omega)).up (by decide) (by decide), (rem_A hA x1 x2 hlx).mono (by omega), ⟨?_, ?_⟩, gU_e, fun p b l' hb' z => ((On_rem hb').mp z).1, ⟨fun k a b c d e f => by rw [gU_k f], by rw [gU_k (by decide)], fun k a b c d e f g i => by rw [gU_k g], fun j hj => by rw [gU_k (by decide)]⟩⟩
        · show sb τ p b0 ≤ l; omega
        · show l < sb τ p b0 + τ 0 6; omega
      · obtain ⟨s, s', o1, o2, r, la, fs⟩ := store_R h0 hA hp hp2 x1 x2 hlx hc hc2 hB
        have f5 := fs.2.2.2.2.2.1 5 (by decide)
        have f6 := fs.2.2.2.2.2.1 6 (by decide)
        have f4 := fs.2.2.2.2.1 4 (by decide) (by decide) (by decide) (by decide) (by decide) (by decide) (by decide)
        have hon : ∀ p b l, On s' p b l ↔ On τ p b l := fun p b l => On_sm f4 f5 f6
        have hsb : sb s' p b0 = sb τ p b0 := by unfold sb; rw [f5, f6]
        rw [if_pos (show σ 10 (64 * p + bx) = 2 by omega), if_neg hd, gk_e o1, gk_e o2, gw_p (by omega), gw_p hbd]
        refine ⟨_, _, l, rfl, rfl, r.up (by decide) (by decide), rem_A la x1 x2 ((hon _ _ _).mpr hlx), ⟨?_, ?_⟩, gU_e, fun p b l' hb' z => (hon _ _ _).mp ((On_rem hb').mp z).1, fs.frV.trans ⟨fun k a b c d e f => by rw [gU_k f], by rw [gU_k (by decide)], fun k a b c d e f g i => by rw [gU_k g], fun j hj => by rw [gU_k (by decide)]⟩⟩
        · show sb s' p b0 ≤ l; omega
        · show l < sb s' p b0 + s' 0 6; omega
