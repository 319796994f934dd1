/-! pages: the frame to fill; a touch -/
theorem to2_gl1 {lo hi : Int} {body body' : (gM → Int → gO) → gM → Int → gO} {R : gO → gO → Prop} (I : Int → gM → gM → Prop)
    (hstep : ∀ rec rec' j s s', lo ≤ j → j < hi → I j s s' → (∀ t t', I (j + 1) t t' → R (rec t (j + 1)) (rec' t' (j + 1))) → R (body rec s j) (body' rec' s' j))
    (hend : ∀ rec rec' s s', I hi s s' → R (body rec s hi) (body' rec' s' hi)) :
    ∀ (n n' : Nat) (j : Int) (s s' : gM), lo ≤ j → j ≤ hi → hi - j < n → hi - j < n' → I j s s' → R (gl1 body n s j) (gl1 body' n' s' j)
  | 0, _, j, s, s', h1, h2, h3, h4, hI => by omega
  | n + 1, 0, j, s, s', h1, h2, h3, h4, hI => by omega
  | n + 1, n' + 1, j, s, s', h1, h2, h3, h4, hI => by
    show R (body (gl1 body n) s j) (body' (gl1 body' n') s' j)
    by_cases hj : j = hi
    · subst hj; exact hend _ _ s s' hI
    · exact hstep _ _ j s s' h1 (by omega) hI fun t t' hI' => to2_gl1 I hstep hend n n' (j + 1) t t' (by omega) (by omega) (by omega) (by omega) hI'
def goC (s1 : gM) : gO := gi 2 4 <| if (s1 1 2) = 0 then (gk (F_Me_earliest_r24 s1) fun s6 a7 => some (s6, a7)) else (gi 2 4 <| if (s1 1 2) = 1 then (gk (F_Me_earliest_r25 s1) fun s4 a5 => some (s4, a5)) else (gk (F_Me_handStops s1) fun s2 a3 => some (s2, a3)))
theorem free_R {B e d : Int} {σ τ : gM} (hP : Rpa B e d σ τ) : (∃ f, (0 ≤ f ∧ f < τ 0 19) ∧ τ 13 f = -4 ∧ F_Me_frameToFill σ = some (σ, f) ∧ F_Mo_freeFrame τ = some (τ, f)) ∨ ((∀ f, 0 ≤ f → f < τ 0 19 → τ 13 f ≠ -4) ∧ F_Me_frameToFill σ = goC σ ∧ F_Mo_freeFrame τ = some (τ, -4)) := by
  obtain ⟨⟨p1, -, -⟩, -, p3, -⟩ := hP
  unfold F_Me_frameToFill F_Mo_freeFrame
  refine to2_gl1 (lo := 0) (hi := τ 0 19) (R := fun o o' => (∃ f, (0 ≤ f ∧ f < τ 0 19) ∧ τ 13 f = -4 ∧ o = some (σ, f) ∧ o' = some (τ, f)) ∨ ((∀ f, 0 ≤ f → f < τ 0 19 → τ 13 f ≠ -4) ∧ o = goC σ ∧ o' = some (τ, -4)))
    (fun j s s' => s = σ ∧ s' = τ ∧ ∀ f, 0 ≤ f → f < j → τ 13 f ≠ -4) ?_ ?_ 200 200 0 σ τ (by omega) (by omega) (by omega) (by omega) ⟨rfl, rfl, fun f f1 f2 => by omega⟩
  · rintro rec rec' j s s' j1 j2 ⟨rfl, rfl, hz⟩ ih
    unfold l_Me_frameToFill_2 l_Mo_freeFrame_2
    rw [p1.1, if_pos j2, if_pos j2, gi_p (by omega), gi_p (by omega), (p3 j j1 (by omega)).1]
    by_cases c : s' 13 j = -4
    · rw [if_pos c, if_pos c]; exact Or.inl ⟨j, ⟨j1, j2⟩, c, rfl, rfl⟩
    · rw [if_neg c, if_neg c, ga_p (by omega), ga_p (by omega)]
      exact ih s s' ⟨rfl, rfl, fun f f1 f2 => by
        by_cases e : f = j
        · rw [e]; exact c
        · exact hz f f1 (by omega)⟩
  · rintro rec rec' s s' ⟨rfl, rfl, hz⟩
    unfold l_Me_frameToFill_2 l_Mo_freeFrame_2
    rw [p1.1, if_neg (Int.lt_irrefl _), if_neg (Int.lt_irrefl _)]
    exact Or.inr ⟨hz, rfl, rfl⟩
theorem earliest_R {B d : Int} {σ τ : gM} (hP : Rpa B (-1) d σ τ) (hall : ∀ f, 0 ≤ f → f < τ 0 19 → τ 13 f ≠ -4) (h2 : ¬ τ 0 20 = 2) :
    (τ 0 20 = 0 → Sim (F_Me_earliest_r24 σ) (F_Mo_whoGoes τ) (fun s r s' r' => s = σ ∧ s' = τ ∧ r' = r ∧ 0 ≤ r ∧ r < τ 0 19)) ∧ (¬ τ 0 20 = 0 → Sim (F_Me_earliest_r25 σ) (F_Mo_whoGoes τ) (fun s r s' r' => s = σ ∧ s' = τ ∧ r' = r ∧ 0 ≤ r ∧ r < τ 0 19)) := by
  obtain ⟨⟨p1, -, -⟩, -, p3, -, p5, -⟩ := hP
  unfold F_Me_earliest_r24 F_Me_earliest_r25 F_Mo_whoGoes
  rw [if_neg h2]
  refine ⟨fun h0 => ?_, fun h0 => ?_⟩
  · refine sim_gl2 (lo := 1) (hi := τ 0 19) (fun j s a s' a' => s = σ ∧ s' = τ ∧ a' = a ∧ 0 ≤ a ∧ a < τ 0 19) ?_ ?_ 200 200 1 σ 0 τ 0 (by omega) (by omega) (by omega) (by omega) ⟨rfl, rfl, rfl, by omega, by omega⟩
    · rintro rec rec' j s a s' a' j1 j2 ⟨rfl, rfl, rfl, a1, a2⟩ ih
      unfold l_Me_earliest_r24_4_24 l_Mo_whoGoes_74 j_Me_earliest_r24_23_24 j_Mo_whoGoes_132 j_Mo_whoGoes_142
      have h5 := (p5 j a' (by omega) (by omega) a1 (by omega) (hall j (by omega) j2) (hall a' a1 a2)).1
      rw [p1.1, if_pos j2, if_pos j2, gi_p (by omega), gi_p (by omega), if_pos h0, gi_p (by omega), gi_p (by omega), ga_p (by omega), ga_p (by omega)]
      by_cases c : s 24 j < s 24 a'
      · rw [if_pos c, if_pos (h5.mp c), if_neg (by decide), ga_p (by omega)]
        exact ih _ _ _ _ ⟨rfl, rfl, rfl, by omega, by omega⟩
      · rw [if_neg c, if_neg (fun z => c (h5.mpr z)), if_pos rfl, ga_p (by omega)]
        exact ih _ _ _ _ ⟨rfl, rfl, rfl, a1, a2⟩
    · rintro rec rec' s a s' a' ⟨rfl, rfl, rfl, a1, a2⟩
      unfold l_Me_earliest_r24_4_24 l_Mo_whoGoes_74
      rw [p1.1, if_neg (Int.lt_irrefl _), if_neg (Int.lt_irrefl _)]
      exact sim_ret ⟨rfl, rfl, rfl, a1, a2⟩
  · refine sim_gl2 (lo := 1) (hi := τ 0 19) (fun j s a s' a' => s = σ ∧ s' = τ ∧ a' = a ∧ 0 ≤ a ∧ a < τ 0 19) ?_ ?_ 200 200 1 σ 0 τ 0 (by omega) (by omega) (by omega) (by omega) ⟨rfl, rfl, rfl, by omega, by omega⟩
    · rintro rec rec' j s a s' a' j1 j2 ⟨rfl, rfl, rfl, a1, a2⟩ ih
      unfold l_Me_earliest_r25_4_25 l_Mo_whoGoes_74 j_Me_earliest_r25_23_25 j_Mo_whoGoes_132 j_Mo_whoGoes_142
      have h5 := (p5 j a' (by omega) (by omega) a1 (by omega) (hall j (by omega) j2) (hall a' a1 a2)).2 (by omega) (by omega)
      rw [p1.1, if_pos j2, if_pos j2, gi_p (by omega), gi_p (by omega), if_neg h0, gi_p (by omega), gi_p (by omega), ga_p (by omega), ga_p (by omega)]
      by_cases c : s 25 j < s 25 a'
      · rw [if_pos c, if_pos (h5.mp c), if_neg (by decide), ga_p (by omega)]
        exact ih _ _ _ _ ⟨rfl, rfl, rfl, by omega, by omega⟩
      · rw [if_neg c, if_neg (fun z => c (h5.mpr z)), if_pos rfl, ga_p (by omega)]
        exact ih _ _ _ _ ⟨rfl, rfl, rfl, a1, a2⟩
    · rintro rec rec' s a s' a' ⟨rfl, rfl, rfl, a1, a2⟩
      unfold l_Me_earliest_r25_4_25 l_Mo_whoGoes_74
      rw [p1.1, if_neg (Int.lt_irrefl _), if_neg (Int.lt_irrefl _)]
      exact sim_ret ⟨rfl, rfl, rfl, a1, a2⟩
def hdC : (gM → Int → Int → gO) → gM → Int → Int → gO := l_Me_handStops_7 (fun s3 b2 => j_Me_handStops_66 s3 b2) (fun s5 b4 => j_Me_handStops_66 s5 b4)
def hdM : (gM → gO) → gM → gO := l_Mo_whoGoes_8 (fun s1 => gv (s1 0 21) fun a2 => ga ((s1 0 21) + 1) fun a3 => gd a3 (s1 0 19) <| gp s1 0 21 (a3 % (s1 0 19)) fun s4 => some (s4, a2))
/-- the hand's way, after j steps -/
def Hnd (σ τ : gM) (j : Int) (s s' : gM) : Prop :=
  ((∀ k, k ≠ 17 → k ≠ 26 → s k = σ k) ∧ (∀ i, i ≠ 4 → s 17 i = σ 17 i) ∧ (∀ k, k ≠ 0 → k ≠ 14 → s' k = τ k) ∧ (∀ i, i ≠ 21 → s' 0 i = τ 0 i)) ∧
  (s 17 4 = s' 0 21 ∧ s' 0 21 = (τ 0 21 + j) % τ 0 19) ∧ (∀ f, 0 ≤ f → f < 16 → s 26 f = s' 14 f ∧ (s' 14 f = 0 ∨ s' 14 f = 1)) ∧ ∀ i, 0 ≤ i → i < j → s' 14 ((τ 0 21 + i) % τ 0 19) = 0
theorem hand_R {σ τ : gM} {Q : gM → Int → gM → Int → Prop} (hF : σ 17 0 = τ 0 19) (h1 : 1 ≤ τ 0 19) (h16 : τ 0 19 ≤ 16) (hh : 0 ≤ τ 0 21) (hh2 : τ 0 21 < τ 0 19)
    (hQ : ∀ s s' f h, (∀ k, k ≠ 17 → k ≠ 26 → s k = σ k) → (∀ i, i ≠ 4 → s 17 i = σ 17 i) → (∀ k, k ≠ 0 → k ≠ 14 → s' k = τ k) → (∀ i, i ≠ 21 → s' 0 i = τ 0 i) → s 17 4 = h → s' 0 21 = h → 0 ≤ h → h < τ 0 19 → (∀ f, 0 ≤ f → f < 16 → s 26 f = s' 14 f ∧ (s' 14 f = 0 ∨ s' 14 f = 1)) → 0 ≤ f → f < τ 0 19 → Q s f s' f) :
    ∀ (n n' : Nat) (j : Int) (s : gM) (a : Int) (s' : gM), 0 ≤ j → j ≤ τ 0 19 → τ 0 19 - j < n → τ 0 19 - j < n' → Hnd σ τ j s s' →
      Sim (gl2 hdC n s a j) (gl0 hdM n' s') Q
  | 0, _, j, s, a, s', h1, h2, h3, h4, hI => by omega
  | n + 1, 0, j, s, a, s', h1, h2, h3, h4, hI => by omega
  | n + 1, n' + 1, j, s, a, s', j1, j2, h3, h4, hI => by
    obtain ⟨⟨k1, k2, k3, k4⟩, ⟨e1, e2⟩, em, ez⟩ := id hI
    have eF : s 17 0 = τ 0 19 := by rw [k2 0 (by decide), hF]
    have eF' : s' 0 19 = τ 0 19 := k4 19 (by decide)
    have hb : 0 ≤ s' 0 21 ∧ s' 0 21 < τ 0 19 := by rw [e2]; exact ⟨Int.emod_nonneg _ (by omega), Int.emod_lt_of_pos _ (by omega)⟩
    have hm := em (s' 0 21) hb.1 (by omega)
    show Sim (l_Me_handStops_7 (fun s3 b2 => j_Me_handStops_66 s3 b2) (fun s5 b4 => j_Me_handStops_66 s5 b4) (gl2 hdC n) s a j) (l_Mo_whoGoes_8 (fun s1 => gv (s1 0 21) fun a2 => ga ((s1 0 21) + 1) fun a3 => gd a3 (s1 0 19) <| gp s1 0 21 (a3 % (s1 0 19)) fun s4 => some (s4, a2)) (gl0 hdM n') s') Q
    have nx : (s' 0 21 + 1) % τ 0 19 = if s' 0 21 + 1 < τ 0 19 then s' 0 21 + 1 else 0 := by
      split
      · exact Int.emod_eq_of_lt (by omega) (by omega)
      · rw [show s' 0 21 + 1 = τ 0 19 by omega]; exact Int.emod_self
    have step : ∀ t0, t0 = (s' 0 21 + 1) % τ 0 19 → Sim (j_Me_handStops_38_17 (fun s3 b2 => j_Me_handStops_66 s3 b2) (fun s5 b4 => j_Me_handStops_66 s5 b4) (gl2 hdC n) s (s' 0 21) j t0) (l_Mo_whoGoes_8 (fun s1 => gv (s1 0 21) fun a2 => ga ((s1 0 21) + 1) fun a3 => gd a3 (s1 0 19) <| gp s1 0 21 (a3 % (s1 0 19)) fun s4 => some (s4, a2)) (gl0 hdM n') s') Q := by
      intro t0 ht
      have ht2 : 0 ≤ t0 ∧ t0 < τ 0 19 := by rw [ht]; exact ⟨Int.emod_nonneg _ (by omega), Int.emod_lt_of_pos _ (by omega)⟩
      have e26 : gU s 17 4 t0 26 = s 26 := gU_k (by decide)
      unfold j_Me_handStops_38_17 l_Mo_whoGoes_8
      rw [gp_p, gi_p (by omega), gi_p (by omega), e26, hm.1]
      by_cases c : s' 14 (s' 0 21) = 0
      · rw [if_pos c, if_pos c]
        dsimp only
        unfold j_Me_handStops_66
        rw [gv_p, ga_p (by omega), gd_p (by omega), gp_p, eF', ← ht]
        refine sim_ret (hQ _ _ _ t0 (fun k a b => by rw [gU_k a]; exact k1 k a b) (fun i hi => by rw [gU_i hi]; exact k2 i hi) (fun k a b => by rw [gU_k a]; exact k3 k a b) (fun i hi => by rw [gU_i hi]; exact k4 i hi) gU_e gU_e ht2.1 ht2.2 (fun f f1 f2 => ?_) hb.1 hb.2)
        rw [gU_k (by decide), gU_k (by decide)]; exact em f f1 f2
      · have hjF : j < τ 0 19 := by
          refine Decidable.byContradiction fun z => ?_
          have hj : j = τ 0 19 := by omega
          have := ez 0 (by decide) (by omega)
          rw [Int.add_zero, Int.emod_eq_of_lt hh hh2] at this
          rw [e2, hj, Int.add_emod_right, Int.emod_eq_of_lt hh hh2] at c
          exact c this
        have e14 : gU s' 14 (s' 0 21) 0 0 = s' 0 := gU_k (by decide)
        rw [if_neg c, if_neg c, gwb_p (by omega), gwb_p (by omega), ga_p (by omega), e14, ga_p (by omega), eF', gd_p (by omega), gp_p, ← ht]
        refine hand_R hF h1 h16 hh hh2 hQ n n' (j + 1) _ _ _ (by omega) (by omega) (by omega) (by omega) ⟨⟨fun k a b => ?_, fun i hi => ?_, fun k a b => ?_, fun i hi => ?_⟩, ⟨?_, ?_⟩, fun f f1 f2 => ?_, fun i i1 i2 => ?_⟩
        · rw [gU_k b, gU_k a]; exact k1 k a b
        · rw [gU_k (by decide), gU_i hi]; exact k2 i hi
        · rw [gU_k a, gU_k b]; exact k3 k a b
        · rw [gU_i hi, gU_k (by decide)]; exact k4 i hi
        · rw [gU_k (by decide), gU_e, gU_e]
        · rw [gU_e, ht, e2, ← Int.add_assoc, Int.emod_add_emod]
        · rw [gU_at, gU_k (show (26 : Nat) ≠ 17 by decide), gU_k (show (14 : Nat) ≠ 0 by decide), gU_at]
          split
          · exact ⟨rfl, Or.inl rfl⟩
          · exact em f f1 f2
        · rw [gU_k (show (14 : Nat) ≠ 0 by decide), gU_at]
          by_cases d : (τ 0 21 + i) % τ 0 19 = s' 0 21
          · rw [if_pos d]
          · rw [if_neg d]
            refine ez i i1 (Decidable.byContradiction fun z => d ?_)
            rw [show i = j by omega]; exact e2.symm
    unfold l_Me_handStops_7
    rw [eF, if_neg (show ¬ τ 0 19 < j by omega), e1, gv_p, ga_p (by omega)]
    by_cases c : s' 0 21 + 1 < τ 0 19
    · rw [if_pos c, ga_p (by omega)]; exact step _ (by rw [nx, if_pos c])
    · rw [if_neg c]; exact step _ (by rw [nx, if_neg c])
theorem who_R {B d : Int} {σ τ : gM} (h0 : R0 B σ τ) (hP : Rpa B (-1) d σ τ) (hall : ∀ f, 0 ≤ f → f < τ 0 19 → τ 13 f ≠ -4) :
    Sim (goC σ) (F_Mo_whoGoes τ) (fun s r s' r' => r' = r ∧ (0 ≤ r ∧ r < τ 0 19) ∧ Rpa B (-1) d s s' ∧ FrX [17, 26] [0, 14] [21] σ τ s s') := by
  have hr := h0.2.1.2.2.1
  unfold goC
  rw [gi_p (by decide), gi_p (by decide), hr.1]
  by_cases c : τ 0 20 = 2
  · rw [if_neg (show ¬ τ 0 20 = 0 by omega), if_neg (show ¬ τ 0 20 = 1 by omega)]
    unfold F_Me_handStops F_Mo_whoGoes
    rw [if_pos c, gv_p]
    obtain ⟨⟨p1, p1b, p1c⟩, p2, p3, p4, p5, p6⟩ := id hP
    have key := hand_R (σ := σ) (τ := τ) (Q := fun s r s' r' => r' = r ∧ (0 ≤ r ∧ r < τ 0 19) ∧ Rpa B (-1) d s s' ∧ FrX [17, 26] [0, 14] [21] σ τ s s') p1.1 p1.2.1 p1.2.2 p1b.2.1 p1b.2.2 ?_ 200 200 0 σ (σ 17 4) τ (by omega) (by omega) (by omega) (by omega)
      ⟨⟨fun _ _ _ => rfl, fun _ _ => rfl, fun _ _ _ => rfl, fun _ _ => rfl⟩, ⟨p1b.1, by rw [Int.add_zero, Int.emod_eq_of_lt p1b.2.1 p1b.2.2]⟩, fun f f1 f2 => (p3 f f1 f2).2.2, fun i i1 i2 => by omega⟩
    · obtain ⟨s, r, s', r', e1, e2, q⟩ := key
      show Sim (gk (gl2 hdC 200 σ (σ 17 4) 0) fun s2 a3 => some (s2, a3)) (gl0 hdM 200 τ) _
      rw [gk_e e1, e2]
      exact sim_ret q
    · intro s s' f h k1 k2 k3 k4 h1 h2 h3 h4 hm f1 f2
      refine ⟨rfl, ⟨f1, f2⟩, ?_, ⟨fun k a => ?_, fun k a => ?_, fun j a => ?_, by rw [k1 4 (by decide) (by decide)]⟩⟩
      · unfold Rpa Rdk
        rw [k2 0 (by decide), k2 5 (by decide), k4 19 (by decide), k4 18 (by decide), h1, h2, k1 18 (by decide) (by decide), k1 23 (by decide) (by decide), k1 24 (by decide) (by decide), k1 25 (by decide) (by decide), k1 27 (by decide) (by decide), k3 13 (by decide) (by decide), k3 15 (by decide) (by decide), k3 16 (by decide) (by decide), k3 17 (by decide) (by decide), k3 19 (by decide) (by decide)]
        exact ⟨⟨p1, ⟨rfl, h3, h4⟩, p1c⟩, p2, fun x x1 x2 => ⟨(p3 x x1 x2).1, (p3 x x1 x2).2.1, hm x x1 x2⟩, p4, p5, p6⟩
      · simp only [List.mem_cons, List.not_mem_nil, or_false, not_or] at a
        exact k1 k a.1 a.2
      · simp only [List.mem_cons, List.not_mem_nil, or_false, not_or] at a
        exact k3 k a.1 a.2
      · simp only [List.mem_cons, List.not_mem_nil, or_false, not_or] at a
        exact k4 j a
  · obtain ⟨a1, a2⟩ := earliest_R hP hall c
    by_cases c0 : τ 0 20 = 0
    · obtain ⟨s, r, s', r', e1, e2, rfl, rfl, rfl, q⟩ := a1 c0
      rw [if_pos c0, gk_e e1, e2]
      exact sim_ret ⟨rfl, q, hP, FrX.refl _ _ _ _ _⟩
    · obtain ⟨s, r, s', r', e1, e2, rfl, rfl, rfl, q⟩ := a2 c0
      rw [if_neg c0, if_pos (show s' 0 20 = 1 by omega), gk_e e1, e2]
      exact sim_ret ⟨rfl, q, hP, FrX.refl _ _ _ _ _⟩

/-- pages that were ever touched -/
def Rwt (σ τ : gM) : Prop := ∀ q, 0 ≤ q → q < 32 → σ 19 q = τ 18 q ∧ (τ 18 q = 0 ∨ τ 18 q = 1)
/-- cells, lines, pages and the run -/
def MM (B : Int) (σ τ : gM) : Prop := R0 B σ τ ∧ Ln B σ τ ∧ Rpa B (-1) 0 σ τ ∧ Rwt σ τ ∧ Rrn (σ 20 1) (σ 20 2) (σ 21) (τ 0 29) (τ 20)
theorem MM.mono {B B' : Int} {σ τ : gM} (h : MM B σ τ) (hb : B ≤ B') : MM B' σ τ := ⟨h.1.mono hb, h.2.1.mono hb, h.2.2.1.mono hb, h.2.2.2.1, h.2.2.2.2⟩
theorem end_R {B q f a : Int} {σ τ : gM} (h0 : R0 B σ τ) (hL : Ln B σ τ) (hP : Rpa B f 1 σ τ) (ha : 0 ≤ a) (ha2 : a < 1024) (hq : q = a / 32) (hf : 0 ≤ f) (hf2 : f < 16)
    (hw : ∀ x, 0 ≤ x → x < 32 → τ 18 x = (if x = q then 1 else σ 19 x) ∧ (σ 19 x = 0 ∨ σ 19 x = 1)) (hn : (0 ≤ σ 20 1 ∧ σ 20 1 < 100) ∧ 0 ≤ σ 20 2 ∧ σ 20 2 ≤ 100) (hr : Rrn (adF (σ 20 1) (σ 20 2) (σ 21) q) (adN (σ 20 1) (σ 20 2) (σ 21) q) (adP (σ 20 1) (σ 20 2) (σ 21) q) (τ 0 29) (τ 20)) (hB : B ≤ 1073741824) :
    ∃ s, j_Me_touch_78 σ a q f = some (s, 32 * f + a % 32) ∧ MM B s (gU (gU τ 16 f (τ 0 18)) 14 f 1) ∧ FrX [19, 20, 21, 25, 26] [14, 16] [] σ τ s (gU (gU τ 16 f (τ 0 18)) 14 f 1) := by
  unfold j_Me_touch_78
  rw [gw_p ⟨hf, hf2⟩, gwb_p ⟨⟨hf, hf2⟩, by decide⟩, gwb_p ⟨by omega, by decide⟩]
  have e20 : gU (gU (gU σ 25 f (σ 17 5)) 26 f 1) 19 q 1 20 = σ 20 := by rw [gU_k (by decide), gU_k (by decide), gU_k (by decide)]
  have e21 : gU (gU (gU σ 25 f (σ 17 5)) 26 f 1) 19 q 1 21 = σ 21 := by rw [gU_k (by decide), gU_k (by decide), gU_k (by decide)]
  obtain ⟨s, e, s1, s2, s3, s4⟩ := add_run (σ := gU (gU (gU σ 25 f (σ 17 5)) 26 f 1) 19 q 1) (q := q) (by rw [e20]; exact hn.1) (by rw [e20]; exact hn.2)
  rw [e20, e21] at s2 s3 s4
  rw [gk_e e, ga_p (by omega), gd_p (by omega), ga_p (by omega), show f * 32 + a % 32 = 32 * f + a % 32 by omega]
  have w19 : s 19 = gU σ 19 q 1 19 := by rw [s1 19 (by decide) (by decide)]; funext x; rw [gU_at, gU_at, gU_k (by decide), gU_k (by decide)]
  have w25 : s 25 = gU σ 25 f (σ 17 5) 25 := by rw [s1 25 (by decide) (by decide), gU_k (by decide), gU_k (by decide)]
  have w26 : s 26 = gU σ 26 f 1 26 := by rw [s1 26 (by decide) (by decide), gU_k (by decide)]; funext x; rw [gU_at, gU_at, gU_k (by decide)]
  have wk : ∀ k, k ≠ 19 → k ≠ 20 → k ≠ 21 → k ≠ 25 → k ≠ 26 → s k = σ k := fun k a b c d e => by rw [s1 k b c, gU_k a, gU_k e, gU_k d]
  have v14 : gU (gU τ 16 f (τ 0 18)) 14 f 1 14 = gU τ 14 f 1 14 := by funext x; rw [gU_at, gU_at, gU_k (by decide)]
  have v16 : gU (gU τ 16 f (τ 0 18)) 14 f 1 16 = gU τ 16 f (τ 0 18) 16 := by rw [gU_k (by decide)]
  have vk : ∀ k, k ≠ 14 → k ≠ 16 → gU (gU τ 16 f (τ 0 18)) 14 f 1 k = τ k := fun k a b => by rw [gU_k a, gU_k b]
  generalize gU (gU τ 16 f (τ 0 18)) 14 f 1 = w' at *
  have fx : FrX [19, 20, 21, 25, 26] [14, 16] [] σ τ s w' := by
    refine ⟨fun k a => ?_, fun k a => ?_, fun j a => by rw [vk 0 (by decide) (by decide)], by rw [wk 4 (by decide) (by decide) (by decide) (by decide) (by decide)]⟩
    · simp only [List.mem_cons, List.not_mem_nil, or_false, not_or] at a
      exact wk k a.1 a.2.1 a.2.2.1 a.2.2.2.1 a.2.2.2.2
    · simp only [List.mem_cons, List.not_mem_nil, or_false, not_or] at a
      exact vk k a.1 a.2
  refine ⟨s, rfl, ⟨h0.fx fx (by decide) (by decide) (by decide), hL.fx fx (by decide) (by decide) (by decide), ?_, fun x x1 x2 => ?_, ?_⟩, fx⟩
  · obtain ⟨p1, p2, p3, p4, p5, p6⟩ := hP
    unfold Rpa Rdk
    rw [w25, w26, wk 17 (by decide) (by decide) (by decide) (by decide) (by decide), wk 18 (by decide) (by decide) (by decide) (by decide) (by decide), wk 23 (by decide) (by decide) (by decide) (by decide) (by decide), wk 24 (by decide) (by decide) (by decide) (by decide) (by decide), wk 27 (by decide) (by decide) (by decide) (by decide) (by decide), v14, v16, vk 0 (by decide) (by decide), vk 13 (by decide) (by decide), vk 15 (by decide) (by decide), vk 17 (by decide) (by decide), vk 19 (by decide) (by decide)]
    refine ⟨p1, p2, fun x x1 x2 => ?_, fun x x1 x2 x3 => ?_, fun x y x1 x2 y1 y2 x3 y3 => ?_, p6⟩
    · have r := p3 x x1 x2
      refine ⟨r.1, r.2.1, ?_⟩
      rw [gU_at, gU_at]
      split
      · exact ⟨rfl, Or.inr rfl⟩
      · exact r.2.2
    · have r := p4 x x1 x2 x3
      rw [gU_at, gU_at]
      by_cases c : x = f
      · rw [if_pos c, if_pos c]; exact ⟨r.1, fun _ => by omega⟩
      · rw [if_neg c, if_neg c]; have := r.2 c; exact ⟨r.1, fun _ => by omega⟩
    · have r := p5 x y x1 x2 y1 y2 x3 y3
      refine ⟨r.1, fun _ _ => ?_⟩
      rw [gU_at, gU_at, gU_at, gU_at]
      by_cases c : x = f
      · by_cases c' : y = f
        · rw [if_pos c, if_pos c', if_pos c, if_pos c']; omega
        · have := ((p4 y y1 y2 y3).2 c').2
          rw [if_pos c, if_neg c', if_pos c, if_neg c']; omega
      · have := ((p4 x x1 x2 x3).2 c).2
        by_cases c' : y = f
        · rw [if_neg c, if_pos c', if_neg c, if_pos c']; omega
        · rw [if_neg c, if_neg c', if_neg c, if_neg c']; exact r.2 c c'
  · rw [w19, vk 18 (by decide) (by decide), gU_at]
    have := hw x x1 x2
    rw [this.1]
    split
    · exact ⟨rfl, Or.inr rfl⟩
    · exact ⟨rfl, this.2⟩
  · rw [s2, s3, s4, vk 0 (by decide) (by decide), vk 20 (by decide) (by decide)]; exact hr
def LPC : List Nat := [3, 4, 6, 7, 8, 9, 10, 11, 12, 13, 14, 15, 16, 17, 18, 19, 20, 21, 23, 24, 25, 26, 27]
def LPM : List Nat := [0, 1, 2, 3, 4, 5, 6, 7, 8, 9, 10, 11, 12, 13, 14, 15, 16, 17, 18, 19, 20, 29, 30]
def LP0 : List Int := [4, 18, 21, 29]
theorem sim_rk {o X : gO} {K : gM → Int → gO} {P Q : gM → Int → gM → Int → Prop} (h : Sim o X P) (k : ∀ s r s' r', P s r s' r' → Sim (some (s, r)) (K s' r') Q) : Sim o (gk X K) Q := by
  obtain ⟨s, r, s', r', rfl, rfl, hp⟩ := h
  exact k s r s' r' hp
def LFC : List Nat := [3, 4, 6, 7, 8, 9, 10, 11, 12, 13, 14, 15, 16, 17, 18, 23, 24, 26, 27]
def LFM : List Nat := [0, 1, 2, 3, 4, 5, 6, 7, 8, 9, 10, 11, 12, 13, 14, 15, 17, 19, 29, 30]
def LF0 : List Int := [4, 21]
theorem touch_R {B a : Int} {σ τ : gM} (h : MM B σ τ) (ha : 0 ≤ a) (ha2 : a < 1024) (hB : B + 300 ≤ 1073741824) :
    Sim (F_Me_touch σ a) (F_Mo_cellOf τ a) (fun s r s' r' => r' = r ∧ (0 ≤ r ∧ r < 512) ∧ MM (B + 300) s s' ∧ FrX LPC LPM LP0 σ τ s s') := by
  obtain ⟨h0, hL, hP, hw, hr⟩ := h
  obtain ⟨q, hq⟩ : ∃ q, q = a / 32 := ⟨_, rfl⟩
  have hq1 : 0 ≤ q := by omega
  have hq2 : q < 32 := by omega
  have h17 := hP.1.2.2
  have h18 := hL.1.1.2.2.2.2
  obtain ⟨c1, c2, -, -, -⟩ := clk_up h0 hL
  have hrn : Rrn (σ 20 1) (σ 20 2) (σ 21) (gU τ 0 18 (τ 0 18 + 1) 0 29) (gU τ 0 18 (τ 0 18 + 1) 20) := by rw [gU_i (by decide), gU_k (by decide)]; exact hr
  obtain ⟨t, et, t1, t2, t3⟩ := note_run hrn hq1 hq2
  unfold F_Me_touch F_Mo_cellOf F_Mo_touch
  rw [gd_p (by omega), gv_p, ← hq, gi_p ⟨hq1, hq2⟩, gv_p, ga_p (by omega), gp_p, gd_p (by omega), ga_p (by omega), gp_p, gk_e et, gwb_p ⟨⟨hq1, hq2⟩, by decide⟩, gi_p ⟨hq1, hq2⟩, gv_p]
  have k18 : ∀ k, k ≠ 0 → k ≠ 20 → k ≠ 18 → gU t 18 q 1 k = τ k := fun k a b c => by rw [gU_k c, t1 k a b, gU_k a]
  have k0 : ∀ j, j ≠ 18 → j ≠ 29 → gU t 18 q 1 0 j = τ 0 j := fun j a b => by rw [gU_k (by decide), t2 j b, gU_i a]
  have z18 : gU t 18 q 1 0 18 = τ 0 18 + 1 := by rw [gU_k (by decide), t2 18 (by decide), gU_e]
  have z29 : gU t 18 q 1 0 29 = t 0 29 := by rw [gU_k (by decide)]
  have v20 : gU t 18 q 1 20 = t 20 := gU_k (by decide)
  have v18 : ∀ x, gU t 18 q 1 18 x = if x = q then 1 else τ 18 x := fun x => by rw [gU_at, t1 18 (by decide) (by decide), gU_k (by decide)]
  have w17 : ∀ j, j ≠ 5 → gU σ 17 5 (σ 17 5 + 1) 17 j = σ 17 j := fun j hj => gU_i hj
  have w5 : gU σ 17 5 (σ 17 5 + 1) 17 5 = σ 17 5 + 1 := gU_e
  have wk : ∀ k, k ≠ 17 → gU σ 17 5 (σ 17 5 + 1) k = σ k := fun k hk => gU_k hk
  have fr1 : FrX [17] [0, 18, 20] [29] σ (gU τ 0 18 (τ 0 18 + 1)) (gU σ 17 5 (σ 17 5 + 1)) (gU t 18 q 1) := by
    refine ⟨fun k a => ?_, fun k a => ?_, fun j a => ?_, by rw [wk 4 (by decide)]⟩
    · simp only [List.mem_cons, List.not_mem_nil, or_false, not_or] at a
      exact wk k a
    · simp only [List.mem_cons, List.not_mem_nil, or_false, not_or] at a
      rw [k18 k a.1 a.2.2 a.2.1, gU_k a.1]
    · simp only [List.mem_cons, List.not_mem_nil, or_false, not_or] at a
      rw [gU_k (by decide), t2 j a]
  have fr2 : FrX LPC LPM LP0 σ τ (gU σ 17 5 (σ 17 5 + 1)) (gU t 18 q 1) := by
    refine ⟨fun k a => wk k (fun e => by subst e; exact a (by decide)), fun k a => k18 k (fun e => by subst e; exact a (by decide)) (fun e => by subst e; exact a (by decide)) (fun e => by subst e; exact a (by decide)), fun j a => k0 j (fun e => by subst e; exact a (by decide)) (fun e => by subst e; exact a (by decide)), by rw [wk 4 (by decide)]⟩
  have R1 : R0 (B + 1) (gU σ 17 5 (σ 17 5 + 1)) (gU t 18 q 1) := c1.fx fr1 (by decide) (by decide) (by decide)
  have L1 : Ln (B + 1) (gU σ 17 5 (σ 17 5 + 1)) (gU t 18 q 1) := c2.fx fr1 (by decide) (by decide) (by decide)
  have P1 : Rpa (B + 1) (-1) 1 (gU σ 17 5 (σ 17 5 + 1)) (gU t 18 q 1) := by
    obtain ⟨⟨p1, p1b, p1c⟩, p2, p3, p4, p5, p6⟩ := hP
    unfold Rpa Rdk
    rw [w17 0 (by decide), w17 4 (by decide), w5, wk 18 (by decide), wk 23 (by decide), wk 24 (by decide), wk 25 (by decide), wk 26 (by decide), wk 27 (by decide), k18 13 (by decide) (by decide) (by decide), k18 14 (by decide) (by decide) (by decide), k18 15 (by decide) (by decide) (by decide), k18 16 (by decide) (by decide) (by decide), k18 17 (by decide) (by decide) (by decide), k18 19 (by decide) (by decide) (by decide), k0 19 (by decide) (by decide), k0 21 (by decide) (by decide), z18]
    refine ⟨⟨p1, p1b, by omega, by omega⟩, p2, p3, fun x x1 x2 x3 => ?_, p5, p6⟩
    have := p4 x x1 x2 x3
    exact ⟨by omega, fun z => by have := this.2 z; omega⟩
  have e17 : gU t 18 q 1 17 = τ 17 := k18 17 (by decide) (by decide) (by decide)
  have e13 : gU t 18 q 1 13 = τ 13 := k18 13 (by decide) (by decide) (by decide)
  rw [e17, (hP.2.1 q hq1 hq2).1]
  -- the end, once the page is in frame f
  have fin : ∀ u u' f B', FrX LFC LFM LF0 (gU σ 17 5 (σ 17 5 + 1)) (gU t 18 q 1) u u' → R0 B' u u' → Ln B' u u' → Rpa B' f 1 u u' → 0 ≤ f → f < 16 → B + 1 ≤ B' → B' ≤ B + 300 →
      Sim (j_Me_touch_78 u a q f) (some (gU (gU u' 16 f (u' 0 18)) 14 f 1, f)) (fun s r s' f => r = 32 * f + a % 32 ∧ (0 ≤ f ∧ f < 16) ∧ MM (B + 300) s s' ∧ FrX LPC LPM LP0 σ τ s s') := by
    intro u u' f B' g1 g2 g3 g4 f1 f2 b1 b2
    have u19 : u 19 = σ 19 := by rw [g1.1 19 (by decide), wk 19 (by decide)]
    have u20 : u 20 = σ 20 := by rw [g1.1 20 (by decide), wk 20 (by decide)]
    have u21 : u 21 = σ 21 := by rw [g1.1 21 (by decide), wk 21 (by decide)]
    have x18 : u' 18 = gU t 18 q 1 18 := g1.2.1 18 (by decide)
    have x20 : u' 20 = t 20 := by rw [g1.2.1 20 (by decide), v20]
    have x29 : u' 0 29 = t 0 29 := by rw [g1.2.2.1 29 (by decide), z29]
    obtain ⟨s, e, m, fx⟩ := end_R (B := B') g2 g3 g4 ha ha2 hq f1 f2 (fun x x1 x2 => by
      have := hw x x1 x2
      rw [x18, v18, u19, this.1]
      exact ⟨rfl, this.2⟩) (by rw [u20]; exact ⟨hr.1, hr.2.1⟩) (by rw [u20, u21, x29, x20]; exact t3) (by omega)
    rw [e]
    exact sim_ret ⟨rfl, ⟨f1, f2⟩, m.mono b2, (fr2.trans (g1.mono (by decide) (by decide) (by decide))).trans (fx.mono (by decide) (by decide) (by decide))⟩
  refine sim_rk (P := fun s r s' f => r = 32 * f + a % 32 ∧ (0 ≤ f ∧ f < 16) ∧ MM (B + 300) s s' ∧ FrX LPC LPM LP0 σ τ s s') ?_ (fun s r s' f ⟨e1, e2, e3, e4⟩ => by
    rw [ga_p (by omega), gd_p (by omega), ga_p (by omega)]
    exact sim_ret ⟨e1.symm, by omega, e3, e4⟩)
  by_cases c : τ 17 q = -4
  · rw [if_pos c, if_pos c]
    refine sim_count R1 (by decide) (by decide) (by decide) (by decide) (by decide) (by decide) (by omega) fun s1 s1' r2 f2 => ?_
    refine sim_spend r2 (by decide) (by decide) (by decide) (by omega) fun s2 s2' r3 f3 => ?_
    have f23 := (f2.trans f3).x
    have L3 : Ln (B + 22) s2 s2' := (L1.fx f23 (by decide) (by decide) (by decide)).mono (by omega)
    have P3 : Rpa (B + 22) (-1) 1 s2 s2' := (P1.fx f23 (by decide) (by decide) (by decide) (by rw [f23.2.2.1 18 (by decide)]; exact Int.le_refl _)).mono (by omega)
    have R3 : R0 (B + 22) s2 s2' := r3.mono (by omega)
    have x17 : s2' 17 = τ 17 := by rw [f23.2.1 17 (by decide), e17]
    -- the page comes into frame f, empty now
    have come : ∀ u u' f, FrX LFC LFM LF0 (gU σ 17 5 (σ 17 5 + 1)) (gU t 18 q 1) u u' → R0 (B + 240) u u' → Ln (B + 240) u u' → Rpa (B + 240) (-1) 1 u u' → 0 ≤ f → f < u' 0 19 → u' 13 f = -4 → u' 17 q = -4 →
        Sim (j_Me_touch_72 u a q f) (j_Mo_touch_76 u' q f) (fun s r s' f => r = 32 * f + a % 32 ∧ (0 ≤ f ∧ f < 16) ∧ MM (B + 300) s s' ∧ FrX LPC LPM LP0 σ τ s s') := by
      intro u u' f g1 g2 g3 g4 f1 f2 f3 f4
      have := g4.1.1
      obtain ⟨y, r, y', r', d1, d2, t', rfl, rfl, d3, d4, d5, d6⟩ := arrive_R g2 g3 g4 hq1 hq2 f1 f2 f3 f4
      unfold j_Me_touch_72
      rw [gk_e d1, d2]
      exact fin y t' r' (B + 240) (g1.trans (d6.mono (by decide) (by decide) (by decide))) d3 d4 d5 f1 (by omega) (by omega) (by omega)
    rcases free_R P3 with ⟨f, f1, f2, f3, f4⟩ | ⟨f1, f2, f3⟩
    · have := P3.1.1
      rw [gk_e f3, gi_p (by omega), (P3.2.2.1 f (by omega) (by omega)).1, if_pos f2, gk_e f4, if_neg (show ¬ f = -4 by omega)]
      exact come s2 s2' f (f23.mono (by decide) (by decide) (by decide)) (R3.mono (by omega)) (L3.mono (by omega)) (P3.mono (by omega)) f1.1 f1.2 f2 (by rw [x17]; exact c)
    · rw [f2, gk_e f3, if_pos rfl]
      refine sim_bind (who_R R3 P3 f1) fun y f y' f' ⟨e, g1, g2, g3⟩ => ?_
      subst e
      have hn := f1 f' g1.1 g1.2
      have n13 : y' 13 = s2' 13 := g3.2.1 13 (by decide)
      have n17 : y' 17 = s2' 17 := g3.2.1 17 (by decide)
      have n19 : y' 0 19 = s2' 0 19 := g3.2.2.1 19 (by decide)
      have := P3.1.1
      rw [gi_p (by omega), (g2.2.2.1 f' (by omega) (by omega)).1, n13, if_neg hn]
      have R4 : R0 (B + 22) y y' := R3.fx g3 (by decide) (by decide) (by decide)
      have L4 : Ln (B + 22) y y' := L3.fx g3 (by decide) (by decide) (by decide)
      refine sim_bind (leave_R (t := 1) R4 L4 (Or.inl g2) g1.1 (by omega) (by rw [n13]; exact hn) (Or.inr ⟨rfl, by decide⟩) (by omega)) fun z _ z' _ ⟨h1, h2, h3, h4, h5⟩ => ?_
      refine come z z' f' ((((f23.mono (by decide) (by decide) (by decide)).trans (g3.mono (by decide) (by decide) (by decide))).trans (h4.mono (by decide) (by decide) (by decide)))) (h1.mono (by omega)) (h2.mono (by omega)) ((h3 1 g2).mono (by omega)) g1.1 (by rw [h4.2.2.1 19 (by decide), n19]; exact g1.2) (by rw [h5, gU_e]) ?_
      rcases ((h3 1 g2).2.1 q hq1 hq2).2 with w | ⟨w1, w2⟩
      · exact w
      · exfalso
        rw [h4.2.2.1 19 (by decide), n19] at w1
        rw [h5, gU_at] at w2
        by_cases d : z' 17 q = f'
        · rw [if_pos d] at w2; omega
        · rw [if_neg d] at w2
          have w3 := (g2.2.2.1 (z' 17 q) w1.1 (by omega)).2.1.resolve_left (by omega)
          rw [w2, n17, x17] at w3
          omega
  · rw [if_neg c, if_neg c]
    unfold j_Mo_touch_160
    have hf := (hP.2.1 q hq1 hq2).2.resolve_left c
    have := hP.1.1
    rw [gw_p (by omega), gwb_p ⟨by omega, by decide⟩]
    refine fin _ _ (τ 17 q) (B + 1) (FrX.refl _ _ _ _ _) R1 L1 ?_ (by omega) (by omega) (by omega) (by omega)
    obtain ⟨p1, p2, p3, p4, p5, p6⟩ := P1
    exact ⟨p1, p2, p3, fun x x1 x2 x3 => ⟨(p4 x x1 x2 x3).1, fun _ => (p4 x x1 x2 x3).2 (by omega)⟩, fun x y x1 x2 y1 y2 x3 y3 => ⟨(p5 x y x1 x2 y1 y2 x3 y3).1, fun _ _ => (p5 x y x1 x2 y1 y2 x3 y3).2 (by omega) (by omega)⟩, p6⟩
