/-! pages: leaving, arriving, touching -/
theorem R0.fx {B : Int} {LC LM : List Nat} {L0 : List Int} {σ τ s s' : gM} (h : R0 B σ τ) (f : FrX LC LM L0 σ τ s s') (a : ∀ k, k ∈ [1, 2, 3, 4, 5, 6, 7, 8] → k ∉ LC) (b : ∀ k, k ∈ [1, 2, 3, 29, 30] → k ∉ LM) (c : ∀ j : Int, j ∈ [(1 : Int), 4, 7, 8, 20, 31, 40] → j ∉ L0) : R0 B s s' := by
  unfold R0
  rw [f.1 1 (a _ (by decide)), f.1 2 (a _ (by decide)), f.1 3 (a _ (by decide)), f.1 4 (a _ (by decide)), f.1 5 (a _ (by decide)), f.1 6 (a _ (by decide)), f.1 7 (a _ (by decide)), f.1 8 (a _ (by decide)),
    f.2.1 1 (b _ (by decide)), f.2.1 2 (b _ (by decide)), f.2.1 3 (b _ (by decide)), f.2.1 29 (b _ (by decide)), f.2.1 30 (b _ (by decide)),
    f.2.2.1 1 (c _ (by decide)), f.2.2.1 4 (c _ (by decide)), f.2.2.1 7 (c _ (by decide)), f.2.2.1 8 (c _ (by decide)), f.2.2.1 20 (c _ (by decide)), f.2.2.1 31 (c _ (by decide)), f.2.2.1 40 (c _ (by decide))]
  exact h
theorem Ln.fx {B : Int} {LC LM : List Nat} {L0 : List Int} {σ τ s s' : gM} (h : Ln B σ τ) (f : FrX LC LM L0 σ τ s s') (a : ∀ k, k ∈ [9, 10, 11, 12, 13, 14, 15, 16] → k ∉ LC) (b : ∀ k, k ∈ [4, 5, 6, 7, 8, 9, 10, 11, 12] → k ∉ LM) (c : ∀ j : Int, j ∈ [(5 : Int), 6, 18] → j ∉ L0) : Ln B s s' :=
  ⟨h.1.sm (f.smA a b c), h.2.sm (f.smA a b c)⟩
theorem Rpa.fx {B e d : Int} {LC LM : List Nat} {L0 : List Int} {σ τ s s' : gM} (h : Rpa B e d σ τ) (f : FrX LC LM L0 σ τ s s') (a : ∀ k, k ∈ [17, 18, 23, 24, 25, 26, 27] → k ∉ LC) (b : ∀ k, k ∈ [13, 14, 15, 16, 17, 19] → k ∉ LM) (c : ∀ j : Int, j ∈ [(19 : Int), 21] → j ∉ L0) (z : τ 0 18 ≤ s' 0 18) : Rpa B e d s s' :=
  h.sm (f.1 17 (a _ (by decide))) (f.1 18 (a _ (by decide))) (f.1 23 (a _ (by decide))) (f.1 24 (a _ (by decide))) (f.1 25 (a _ (by decide))) (f.1 26 (a _ (by decide))) (f.1 27 (a _ (by decide))) (f.2.1 13 (b _ (by decide))) (f.2.1 14 (b _ (by decide))) (f.2.1 15 (b _ (by decide))) (f.2.1 16 (b _ (by decide))) (f.2.1 17 (b _ (by decide))) (f.2.1 19 (b _ (by decide))) z (f.2.2.1 19 (c _ (by decide))) (f.2.2.1 21 (c _ (by decide)))
theorem FrM.x4 {σ τ s s' : gM} (h : FrM σ τ s s') (h18 : s' 0 18 = τ 0 18) : FrX [3, 4, 6, 7, 8, 9, 10, 11, 12, 13, 14, 15, 16] [0, 1, 2, 3, 4, 5, 6, 7, 8, 9, 10, 11, 12, 29, 30] [4] σ τ s s' := by
  refine ⟨h.x.1, h.x.2.1, fun j a => ?_, h.x.2.2.2⟩
  simp only [List.mem_cons, List.not_mem_nil, or_false, not_or] at a
  by_cases c : j = 18
  · rw [c]; exact h18
  · exact h.2.2.2.2 j a c
theorem leave_R {B f c t : Int} {σ τ : gM} (h0 : R0 B σ τ) (hL : Ln B σ τ) (hP : Rpa B (-1) 1 σ τ ∨ Rpa B (-1) 0 σ τ) (hf : 0 ≤ f) (hf2 : f < 16) (hne : τ 13 f ≠ -4) (hc : (c = -1 ∧ t = 0) ∨ (c = 6 ∧ t ≠ 0)) (hB : B + 200 ≤ 1073741824) :
    Sim (F_Me_leave σ f c) (F_Mo_goAway τ f t) (fun s r s' r' => R0 (B + 200) s s' ∧ Ln (B + 200) s s' ∧ (∀ d, Rpa B (-1) d σ τ → Rpa (B + 200) (-1) d s s') ∧
      FrX [3, 4, 6, 7, 8, 9, 10, 11, 12, 13, 14, 15, 16, 18, 23, 27] [0, 1, 2, 3, 4, 5, 6, 7, 8, 9, 10, 11, 12, 13, 17, 19, 29, 30] [4] σ τ s s' ∧ s' 13 = gU τ 13 f (-4) 13) := by
  have hq : σ 23 f = τ 13 f := by
    rcases hP with z | z <;> exact (z.2.2.1 f hf hf2).1
  unfold F_Me_leave F_Mo_goAway
  rw [gi_p ⟨hf, hf2⟩, gi_p ⟨hf, hf2⟩, gv_p, gv_p, ga_p (by omega), ga_p (by omega), ga_p (by omega), ga_p (by omega), hq, show f * 4 = 4 * f by omega, show 4 * f + 3 = 4 * f + 4 - 1 by omega]
  refine sim_bind (drive_R (D := 112) (f := 4 * f) (n := 4) h0 hL (by omega) (by omega) (by omega) hc (by omega) (by omega)) fun s r s' r' ⟨q1, q2, q3, q4, q5⟩ => ?_
  have x3 := q3.x4 q4
  have P2 : ∀ d, Rpa B (-1) d σ τ → Rpa (B + 140) (-1) d s s' := fun d z => (z.fx x3 (by decide) (by decide) (by decide) (by omega)).mono (by omega)
  -- the end, whichever way
  have fin : ∀ u u', R0 (B + 140) u u' → Ln (B + 140) u u' → FrX [3, 4, 6, 7, 8, 9, 10, 11, 12, 13, 14, 15, 16] [0, 1, 2, 3, 4, 5, 6, 7, 8, 9, 10, 11, 12, 29, 30] [4] σ τ u u' → Sim (j_Me_leave_34 u f (τ 13 f)) (j_Mo_goAway_32 u' f (τ 13 f)) (fun s r s' r' => R0 (B + 200) s s' ∧ Ln (B + 200) s s' ∧ (∀ d, Rpa B (-1) d σ τ → Rpa (B + 200) (-1) d s s') ∧
      FrX [3, 4, 6, 7, 8, 9, 10, 11, 12, 13, 14, 15, 16, 18, 23, 27] [0, 1, 2, 3, 4, 5, 6, 7, 8, 9, 10, 11, 12, 13, 17, 19, 29, 30] [4] σ τ s s' ∧ s' 13 = gU τ 13 f (-4) 13) := by
    intro u u' w1 w2 w3
    have e13 : u' 13 = τ 13 := w3.2.1 13 (by decide)
    have e18 : u' 0 18 = τ 0 18 := w3.2.2.1 18 (by decide)
    have w4 : ∀ d, Rpa B (-1) d σ τ → Rpa (B + 140) (-1) d u u' := fun d z => (z.fx w3 (by decide) (by decide) (by decide) (by omega)).mono (by omega)
    refine sim_mono (gone_R w1 w2 (hP.imp (w4 1) (w4 0)) hf hf2 (by rw [e13]) hne (by omega)) fun x r x' r' ⟨v1, v2, v3, v4, v5⟩ => ⟨v1.mono (by omega), v2.mono (by omega), fun d z => (v3 d (w4 d z)).mono (by omega), (w3.mono (by decide) (by decide) (by decide)).trans (v4.mono (by decide) (by decide) (by decide)), ?_⟩
    rw [v5]
    funext y
    rw [gU_at, gU_at, e13]
  rcases hc with ⟨rfl, rfl⟩ | ⟨rfl, ht⟩
  · rw [if_pos rfl, if_pos rfl]
    exact fin s s' (q1.mono (by omega)) (q2.mono (by omega)) x3
  · rw [if_neg (by decide), if_neg ht]
    refine sim_spend q1 (by decide) (by decide) (by decide) (by omega) fun u u' w1 w2 => ?_
    have sm := w2.smA
    exact fin u u' (w1.mono (by omega)) ⟨(q2.1.sm sm).mono (by omega), q2.2.sm sm⟩ (x3.trans (w2.x.mono (by decide) (by decide) (by decide)))
theorem lost_e : gXor (cC 0) 6 = 6 := by decide +kernel
theorem arrive_R {B q f : Int} {σ τ : gM} (h0 : R0 B σ τ) (hL : Ln B σ τ) (hP : Rpa B (-1) 1 σ τ) (hq : 0 ≤ q) (hq2 : q < 32) (hf : 0 ≤ f) (hf2 : f < τ 0 19) (hfe : τ 13 f = -4) (hqe : τ 17 q = -4) :
    Sim (F_Me_arrive σ q f) (j_Mo_touch_76 τ q f) (fun s r s' r' => ∃ t', s' = gU (gU t' 16 f (t' 0 18)) 14 f 1 ∧ r' = f ∧ R0 B s t' ∧ Ln B s t' ∧ Rpa B f 1 s t' ∧ FrX [6, 18, 23, 24] [1, 13, 15, 17] [] σ τ s t') := by
  obtain ⟨p1, p2, p3, p4, p5, p6⟩ := hP
  have hf16 : f < 16 := by omega
  unfold F_Me_arrive j_Mo_touch_76
  refine sim_gl1 (lo := 0) (hi := 32) (fun j s s' => R0 B s s' ∧ ((∀ k, k ≠ 6 → s k = σ k) ∧ (∀ k, k ≠ 1 → s' k = τ k))) ?_ ?_ 200 200 0 σ τ (by omega) (by omega) (by omega) (by omega) ⟨h0, fun _ _ => rfl, fun _ _ => rfl⟩
  · rintro rec rec' j s s' j1 j2 ⟨i1, i2, i3⟩ ih
    have hd := p6 (32 * q + j) (by omega) (by omega)
    have e27 : s 27 = σ 27 := i2 27 (by decide)
    have e19 : s' 19 = τ 19 := i3 19 (by decide)
    unfold l_Me_arrive_2 l_Mo_touch_78 j_Me_arrive_55_6 j_Mo_touch_129_1
    rw [if_pos j2, if_pos j2, ga_p (by omega), ga_p (by omega), ga_p (by omega), ga_p (by omega), gi_p (by omega), gv_p, ga_p (by omega), ga_p (by omega), gi_p (by omega), gv_p, ga_p (by omega), ga_p (by omega), show q * 32 + j = 32 * q + j by omega, show f * 32 + j = 32 * f + j by omega, e27, e19, ← hd.1]
    have put : ∀ v, 0 ≤ v → v < 8192 → Sim (gw s 6 512 (32 * f + j) v fun s1 => ga (j + 1) fun a2 => rec s1 a2) (gw s' 1 512 (32 * f + j) v fun s1 => ga (j + 1) fun a2 => rec' s1 a2) (fun s r s' r' => ∃ t', s' = gU (gU t' 16 f (t' 0 18)) 14 f 1 ∧ r' = f ∧ R0 B s t' ∧ Ln B s t' ∧ Rpa B f 1 s t' ∧ FrX [6, 18, 23, 24] [1, 13, 15, 17] [] σ τ s t') := by
      intro v v1 v2
      rw [gw_p (by omega), gw_p (by omega), ga_p (by omega), ga_p (by omega)]
      exact ih _ _ ⟨(bits_R i1 v1 v2).1, fun k hk => by rw [gU_k hk]; exact i2 k hk, fun k hk => by rw [gU_k hk]; exact i3 k hk⟩
    rcases hd.2 with z | z
    · rw [if_pos z, if_pos z, gk_e (code_i (v := 0) (by decide) (by decide)), lost_e]
      exact put 6 (by decide) (by decide)
    · rw [if_neg (show ¬ σ 27 (32 * q + j) = -5 by omega), if_neg (show ¬ σ 27 (32 * q + j) = -5 by omega), gk_e (coded_i z.1 (by omega)), gk_e (code_i z.1 (by omega))]
      have c := cC_ok z.1 (show σ 27 (32 * q + j) < 256 by omega)
      exact put _ c.1 c.2
  · rintro rec rec' s s' ⟨i1, i2, i3⟩
    unfold l_Me_arrive_2 l_Mo_touch_78 j_Mo_touch_160
    rw [if_neg (by decide), if_neg (by decide)]
    dsimp only
    have k1 : gU (gU s 18 q f) 23 f q 17 = s 17 := by rw [gU_k (by decide), gU_k (by decide)]
    have k2 : gU (gU s' 13 f q) 17 q f 0 = s' 0 := by rw [gU_k (by decide), gU_k (by decide)]
    have k3 : ∀ v, gU (gU (gU s' 13 f q) 17 q f) 15 f v 0 = s' 0 := fun v => by rw [gU_k (by decide), gU_k (by decide), gU_k (by decide)]
    rw [gw_p ⟨hq, hq2⟩, gw_p ⟨hf, hf16⟩, gw_p ⟨hf, hf16⟩, gw_p ⟨hf, hf16⟩, gw_p ⟨hq, hq2⟩, gw_p ⟨hf, hf16⟩, gw_p ⟨hf, hf16⟩, gwb_p ⟨⟨hf, hf16⟩, by decide⟩, k1, k2, k3]
    have e17 : s 17 = σ 17 := i2 17 (by decide)
    have e0 : s' 0 = τ 0 := i3 0 (by decide)
    have w18 : gU (gU (gU s 18 q f) 23 f q) 24 f (s 17 5) 18 = gU σ 18 q f 18 := by rw [gU_k (by decide), gU_k (by decide)]; funext x; rw [gU_at, gU_at, i2 18 (by decide)]
    have w23 : gU (gU (gU s 18 q f) 23 f q) 24 f (s 17 5) 23 = gU σ 23 f q 23 := by rw [gU_k (by decide)]; funext x; rw [gU_at, gU_at, gU_k (by decide), i2 23 (by decide)]
    have w24 : gU (gU (gU s 18 q f) 23 f q) 24 f (s 17 5) 24 = gU σ 24 f (σ 17 5) 24 := by funext x; rw [gU_at, gU_at, gU_k (by decide), gU_k (by decide), i2 24 (by decide), e17]
    have w6 : gU (gU (gU s 18 q f) 23 f q) 24 f (s 17 5) 6 = s 6 := by rw [gU_k (by decide), gU_k (by decide), gU_k (by decide)]
    have wk : ∀ k, k ≠ 6 → k ≠ 18 → k ≠ 23 → k ≠ 24 → gU (gU (gU s 18 q f) 23 f q) 24 f (s 17 5) k = σ k := fun k a b c d => by rw [gU_k d, gU_k c, gU_k b]; exact i2 k a
    have v13 : gU (gU (gU s' 13 f q) 17 q f) 15 f (s' 0 18) 13 = gU τ 13 f q 13 := by rw [gU_k (by decide), gU_k (by decide)]; funext x; rw [gU_at, gU_at, i3 13 (by decide)]
    have v17 : gU (gU (gU s' 13 f q) 17 q f) 15 f (s' 0 18) 17 = gU τ 17 q f 17 := by rw [gU_k (by decide)]; funext x; rw [gU_at, gU_at, gU_k (by decide), i3 17 (by decide)]
    have v15 : gU (gU (gU s' 13 f q) 17 q f) 15 f (s' 0 18) 15 = gU τ 15 f (τ 0 18) 15 := by funext x; rw [gU_at, gU_at, gU_k (by decide), gU_k (by decide), i3 15 (by decide), e0]
    have v1 : gU (gU (gU s' 13 f q) 17 q f) 15 f (s' 0 18) 1 = s' 1 := by rw [gU_k (by decide), gU_k (by decide), gU_k (by decide)]
    have vk : ∀ k, k ≠ 1 → k ≠ 13 → k ≠ 15 → k ≠ 17 → gU (gU (gU s' 13 f q) 17 q f) 15 f (s' 0 18) k = τ k := fun k a b c d => by rw [gU_k c, gU_k d, gU_k b]; exact i3 k a
    have v0 : s' 0 18 = gU (gU (gU s' 13 f q) 17 q f) 15 f (s' 0 18) 0 18 := by rw [k3]
    refine sim_ret ⟨gU (gU (gU s' 13 f q) 17 q f) 15 f (s' 0 18), by rw [← v0], rfl, ?_⟩
    generalize gU (gU (gU s' 13 f q) 17 q f) 15 f (s' 0 18) = w' at *
    generalize gU (gU (gU s 18 q f) 23 f q) 24 f (s 17 5) = w at *
    have fx : FrX [6, 18, 23, 24] [1, 13, 15, 17] [] σ τ w w' := by
      refine ⟨fun k a => ?_, fun k a => ?_, fun j a => ?_, ?_⟩
      · simp only [List.mem_cons, List.not_mem_nil, or_false, not_or] at a
        exact wk k a.1 a.2.1 a.2.2.1 a.2.2.2
      · simp only [List.mem_cons, List.not_mem_nil, or_false, not_or] at a
        exact vk k a.1 a.2.1 a.2.2.1 a.2.2.2
      · rw [vk 0 (by decide) (by decide) (by decide) (by decide)]
      · rw [wk 4 (by decide) (by decide) (by decide) (by decide)]
    refine ⟨?_, hL.fx fx (by decide) (by decide) (by decide), ?_, fx⟩
    · have q : FrX [18, 23, 24] [13, 15, 17] [] s s' w w' := by
        refine ⟨fun k a => ?_, fun k a => ?_, fun j a => ?_, ?_⟩
        · simp only [List.mem_cons, List.not_mem_nil, or_false, not_or] at a
          by_cases c : k = 6
          · rw [c, w6]
          · rw [wk k c a.1 a.2.1 a.2.2, i2 k c]
        · simp only [List.mem_cons, List.not_mem_nil, or_false, not_or] at a
          by_cases c : k = 1
          · rw [c, v1]
          · rw [vk k c a.1 a.2.1 a.2.2, i3 k c]
        · rw [vk 0 (by decide) (by decide) (by decide) (by decide), e0]
        · rw [wk 4 (by decide) (by decide) (by decide) (by decide), i2 4 (by decide)]
      exact i1.fx q (by decide) (by decide) (by decide)
    · unfold Rpa Rdk
      rw [w18, w23, w24, wk 17 (by decide) (by decide) (by decide) (by decide), wk 25 (by decide) (by decide) (by decide) (by decide), wk 26 (by decide) (by decide) (by decide) (by decide), wk 27 (by decide) (by decide) (by decide) (by decide), v13, v15, v17, vk 0 (by decide) (by decide) (by decide) (by decide), vk 14 (by decide) (by decide) (by decide) (by decide), vk 16 (by decide) (by decide) (by decide) (by decide), vk 19 (by decide) (by decide) (by decide) (by decide)]
      have occ : ∀ x, x ≠ f → gU τ 13 f q 13 x ≠ -4 → τ 13 x ≠ -4 := fun x c hx => by rwa [gU_i c] at hx
      refine ⟨p1, fun x x1 x2 => ?_, fun x x1 x2 => ?_, fun x x1 x2 x3 => ?_, fun x y x1 x2 y1 y2 x3 y3 => ?_, p6⟩
      · rw [gU_at, gU_at]
        by_cases c : x = q
        · rw [if_pos c, if_pos c, gU_e]; exact ⟨rfl, Or.inr ⟨⟨hf, hf2⟩, c.symm⟩⟩
        · rw [if_neg c, if_neg c]
          refine ⟨(p2 x x1 x2).1, ?_⟩
          rcases (p2 x x1 x2).2 with z | z
          · exact Or.inl z
          · refine Or.inr ⟨z.1, ?_⟩
            rw [gU_i (fun e => by rw [e, hfe] at z; omega)]
            exact z.2
      · have r := p3 x x1 x2
        rw [gU_at, gU_at]
        by_cases c : x = f
        · rw [if_pos c, if_pos c, gU_e]; exact ⟨rfl, Or.inr ⟨⟨hq, hq2⟩, c.symm, by omega⟩, r.2.2⟩
        · rw [if_neg c, if_neg c]
          refine ⟨r.1, ?_, r.2.2⟩
          rcases r.2.1 with z | z
          · exact Or.inl z
          · refine Or.inr ⟨z.1, ?_, z.2.2⟩
            rw [gU_i (fun e => by rw [e, hqe] at z; omega)]
            exact z.2.1
      · rw [gU_at, gU_at]
        by_cases c : x = f
        · rw [if_pos c, if_pos c]; exact ⟨⟨Int.le_refl _, Int.le_refl _⟩, fun z => absurd c z⟩
        · rw [if_neg c, if_neg c]
          have := p4 x x1 x2 (occ x c x3)
          exact ⟨this.1, fun _ => this.2 (by omega)⟩
      · rw [gU_at, gU_at, gU_at, gU_at]
        by_cases c : x = f
        · by_cases c' : y = f
          · rw [if_pos c, if_pos c', if_pos c, if_pos c']; exact ⟨⟨fun z => by omega, fun z => by omega⟩, fun z => absurd c z⟩
          · have := ((p4 y y1 y2 (occ y c' y3)).2 (by omega)).1
            rw [if_pos c, if_neg c', if_pos c, if_neg c']; exact ⟨⟨fun z => by omega, fun z => by omega⟩, fun z => absurd c z⟩
        · have hx := ((p4 x x1 x2 (occ x c x3)).2 (by omega)).1
          by_cases c' : y = f
          · rw [if_neg c, if_pos c', if_neg c, if_pos c']; exact ⟨⟨fun z => by omega, fun z => by omega⟩, fun _ z => absurd c' z⟩
          · rw [if_neg c, if_neg c', if_neg c, if_neg c']
            have := p5 x y x1 x2 y1 y2 (occ x c x3) (occ y c' y3)
            exact ⟨this.1, fun _ _ => this.2 (by omega) (by omega)⟩
