/-! gathering: the flag, the dead, the age -/
theorem R0.t11 {B v : Int} {σ τ : gM} (h : R0 B σ τ) : R0 B (gU σ 4 11 v) τ := by
  obtain ⟨a1, a2, ⟨b1, b2, b3, b4, b5⟩, c1, c2⟩ := h
  unfold R0
  rw [gU_k (show (6 : Nat) ≠ 4 by decide), gU_k (show (7 : Nat) ≠ 4 by decide), gU_k (show (8 : Nat) ≠ 4 by decide), gU_k (show (5 : Nat) ≠ 4 by decide), gU_k (show (1 : Nat) ≠ 4 by decide), gU_k (show (3 : Nat) ≠ 4 by decide), gU_k (show (2 : Nat) ≠ 4 by decide)]
  refine ⟨a1, a2, ⟨b1, b2, b3, ?_, b5⟩, fun c q1 q2 q3 q4 q5 => ?_, ?_⟩
  · rw [gU_i (by decide)]; exact b4
  · rw [gU_i q4]; exact c1 c q1 q2 q3 q4 q5
  · rw [gU_i (by decide)]; exact c2
theorem MM.t11 {B v : Int} {σ τ : gM} (h : MM B σ τ) : MM B (gU σ 4 11 v) τ := by
  obtain ⟨h0, hL, hP, hw, hr⟩ := h
  have sm : SmA σ τ (gU σ 4 11 v) τ := ⟨⟨gU_k (by decide), gU_k (by decide), gU_k (by decide), gU_k (by decide), gU_k (by decide), gU_k (by decide), gU_k (by decide), gU_k (by decide)⟩, ⟨rfl, rfl, rfl, rfl, rfl, rfl, rfl, rfl, rfl⟩, rfl, rfl, rfl⟩
  refine ⟨h0.t11, ⟨hL.1.sm sm, hL.2.sm sm⟩, hP.sm (gU_k (by decide)) (gU_k (by decide)) (gU_k (by decide)) (gU_k (by decide)) (gU_k (by decide)) (gU_k (by decide)) (gU_k (by decide)) rfl rfl rfl rfl rfl rfl (Int.le_refl _) rfl rfl, fun q q1 q2 => ?_, ?_⟩
  · rw [gU_k (show (19 : Nat) ≠ 4 by decide)]; exact hw q q1 q2
  · rw [gU_k (show (20 : Nat) ≠ 4 by decide), gU_k (show (21 : Nat) ≠ 4 by decide)]; exact hr
theorem RR.flag {B g : Int} {σ τ : gM} (h : RR B σ τ) (hg : g = 0 ∨ g = 1) : RR B (gU σ 2 2 g) (gU τ 0 40 g) := by
  refine h.r0 (LC := [2]) (LM := [0]) (L0 := [40]) ?_ ⟨fun k a => ?_, fun k a => ?_, fun i a => ?_, ?_⟩ (by decide) (by decide) (by decide) ?_
  · obtain ⟨a1, a2, ⟨b1, b2, b3, b4, b5⟩, c⟩ := h.1.1
    have n : ∀ i, i ≠ 40 → gU τ 0 40 g 0 i = τ 0 i := fun i a => gU_i a
    refine ⟨?_, ?_, ⟨by rw [gU_e, gU_e], by rw [gU_e]; exact hg, b3, b4, b5⟩, ?_⟩
    · rw [n 1 (by decide)]; exact a1
    · rw [n 7 (by decide), n 8 (by decide), n 20 (by decide), n 31 (by decide)]; exact a2
    · rw [n 4 (by decide)]; exact c
  · simp only [List.mem_cons, List.not_mem_nil, or_false, not_or] at a; rw [gU_k a]
  · simp only [List.mem_cons, List.not_mem_nil, or_false, not_or] at a; rw [gU_k a]
  · simp only [List.mem_cons, List.not_mem_nil, or_false, not_or] at a; rw [gU_i a]
  · rw [gU_k (by decide)]
  · rw [gU_k (by decide)]; exact Int.le_refl _
theorem RR.cnt {B c n : Int} {σ τ : gM} (h : RR B σ τ) (hc : 0 ≤ c) (hc2 : c < 16) (h8 : c ≠ 8) (h11 : c ≠ 11) (h14 : c ≠ 14) (hn : 0 ≤ n) : RR (B + n) (gU σ 4 c (σ 4 c + n)) (gU τ 30 c (τ 30 c + n)) := by
  obtain ⟨q1, q2⟩ := count_R h.1.1 hc hc2 h8 h11 h14 hn
  exact (h.mono (by omega)).r0 q1 q2.x (by decide) (by decide) (by decide) (by rw [gU_i (Ne.symm h14)]; exact Int.le_refl _)
theorem weak_R {σ τ : gM} {o p1 p1' : Int} {k1 k1' : gM → gO} {Q : gM → Int → gM → Int → Prop} (hw : ∀ i, 0 ≤ i → i < 4 → σ 35 i = τ 28 i)
    (k : ∀ s s', (∀ q, q ≠ 35 → s q = σ q) → (∀ q, q ≠ 28 → s' q = τ q) → (∀ i, 0 ≤ i → i < 4 → s 35 i = s' 28 i ∧ s' 28 i = if τ 28 i = o then -1 else τ 28 i) → Sim (k1 s) (k1' s') Q) :
    Sim (gl1 (l_He_buryOthers_43 k1 p1 o) 200 σ 0) (gl1 (l_Mo_bury_40 k1' p1' o) 200 τ 0) Q := by
  refine sim_gl1 (lo := 0) (hi := 4) (fun j s s' => (∀ q, q ≠ 35 → s q = σ q) ∧ (∀ q, q ≠ 28 → s' q = τ q) ∧ ∀ i, 0 ≤ i → i < 4 → s 35 i = s' 28 i ∧ s' 28 i = if i < j ∧ τ 28 i = o then -1 else τ 28 i) ?_ ?_ 200 200 0 σ τ (by omega) (by omega) (by omega) (by omega) ⟨fun _ _ => rfl, fun _ _ => rfl, fun i i1 i2 => ⟨hw i i1 i2, by rw [if_neg (by omega)]⟩⟩
  · rintro rec rec' j s s' j1 j2 ⟨i1, i2, i3⟩ ih
    unfold l_He_buryOthers_43 l_Mo_bury_40 j_He_buryOthers_65 j_Mo_bury_70_28
    have hj := i3 j j1 j2
    rw [if_neg (show ¬ (j < j ∧ τ 28 j = o) by omega)] at hj
    rw [if_pos j2, if_pos j2, gi_p (by omega), gi_p (by omega), gi_p (by omega), hj.1, hj.2]
    have fin : ∀ v t, (v = if τ 28 j = o then -1 else τ 28 j) → (∀ q, q ≠ 35 → t q = σ q) → (∀ i, i ≠ j → t 35 i = s 35 i) → t 35 j = v → Sim (ga (j + 1) fun a1 => rec t a1) (gw s' 28 4 j v fun s1 => ga (j + 1) fun a2 => rec' s1 a2) Q := by
      intro v t hv h1 h2 h3
      rw [gw_p (by omega), ga_p (by omega), ga_p (by omega)]
      refine ih _ _ ⟨h1, fun q hq => by rw [gU_k hq]; exact i2 q hq, fun i a b => ?_⟩
      rw [gU_at]
      by_cases c : i = j
      · rw [if_pos c, c, h3, hv]
        refine ⟨rfl, ?_⟩
        by_cases d : τ 28 j = o
        · rw [if_pos d, if_pos ⟨by omega, d⟩]
        · rw [if_neg d, if_neg (fun z => d z.2)]
      · rw [if_neg c, h2 i c]
        refine ⟨(i3 i a b).1, ?_⟩
        rw [(i3 i a b).2]
        by_cases d : i < j ∧ τ 28 i = o
        · rw [if_pos d, if_pos ⟨by omega, d.2⟩]
        · rw [if_neg d, if_neg (fun z => d ⟨by omega, z.2⟩)]
    by_cases c : τ 28 j = o
    · rw [if_pos c, if_pos c, gw_p (by omega)]
      exact fin (-1) _ (by rw [if_pos c]) (fun q hq => by rw [gU_k hq]; exact i1 q hq) (fun i hi => gU_i hi) gU_e
    · rw [if_neg c, if_neg c]
      exact fin _ s (by rw [if_neg c]) i1 (fun _ _ => rfl) (hj.1.trans hj.2)
  · rintro rec rec' s s' ⟨i1, i2, i3⟩
    unfold l_He_buryOthers_43 l_Mo_bury_40
    rw [if_neg (by decide), if_neg (by decide)]
    exact k s s' i1 i2 fun i a b => ⟨(i3 i a b).1, by
      rw [(i3 i a b).2]
      by_cases d : τ 28 i = o
      · rw [if_pos d, if_pos ⟨b, d⟩]
      · rw [if_neg d, if_neg (fun z => d z.2)]⟩
theorem bury_R {B : Int} {σ τ : gM} (h : RR B σ τ) (w : RW σ τ) (hroot : ∀ i, 0 ≤ i → i < 8 → τ 27 i = -1 ∨ τ 33 (τ 27 i) = 1) (hB : B + 100 ≤ 1073741824) :
    Sim (F_He_buryOthers σ) (F_Mo_bury τ) (fun s r s' r' => r' = r ∧ RR (B + 40) s s' ∧ s 28 9 = gcnt (s' 21) 40) := by
  obtain ⟨hO, hD, ⟨hr1, hr2⟩, h11⟩ := h.2
  unfold F_He_buryOthers F_Mo_bury
  refine sim_gl2 (lo := 0) (hi := 40) (fun j s a s' a' => (a' = a ∧ 0 ≤ a ∧ a ≤ j) ∧ FrX [29, 35] [21, 28] [] σ τ s s' ∧ (∀ o, 0 ≤ o → o < 40 → HO B (σ 4 14) s s' o) ∧ (∀ i, 0 ≤ i → i < 4 → s 35 i = s' 28 i ∧ (s' 28 i = -1 ∨ ((0 ≤ s' 28 i ∧ s' 28 i < 40) ∧ s' 21 (s' 28 i) = 1))) ∧ σ 4 11 = gcnt (s' 21) 40 + a ∧ (∀ o, 0 ≤ o → o < 40 → s' 21 o = 1 → τ 21 o = 1 ∧ (o < j → τ 33 o = 1)) ∧ ∀ o, 0 ≤ o → o < 40 → τ 33 o = 1 → s' 21 o = 1) ?_ ?_ 200 200 0 σ 0 τ 0 (by omega) (by omega) (by omega) (by omega) ⟨⟨rfl, by omega, by omega⟩, FrX.refl _ _ _ _ _, hO, hr2, by omega, fun o o1 o2 o3 => ⟨o3, fun z => by omega⟩, fun o o1 o2 o3 => ((w.2.2 o o1 o2).2.resolve_left (by omega)).2⟩
  · rintro rec rec' j s a s' a' j1 j2 ⟨⟨e, i1, i1'⟩, i2, i3, i4, i5, i6, i7⟩ ih
    subst e
    unfold l_He_buryOthers_4 l_Mo_bury_4 j_He_buryOthers_71 j_Mo_bury_77
    have e37 : s 37 j = τ 33 j := by rw [i2.1 37 (by decide)]; exact (w.2.2 j j1 j2).1
    have e33 : s' 33 = τ 33 := i2.2.1 33 (by decide)
    rw [if_pos j2, if_pos j2, gi_p (by omega), gi_p (by omega), e33]
    rcases has_R (o := j) i3 with ⟨x1, x2, x3, -⟩ | ⟨x1, x3, -⟩
    · rw [gk_e x3, if_neg (show ¬ (1 : Int) = 0 by decide), gi_p (by omega), if_neg (show ¬ s' 21 j = 0 by omega), e37]
      by_cases c : τ 33 j = 0
      · rw [if_pos c, if_pos c, gw_p (by omega), gwb_p ⟨by omega, by decide⟩, ga_p (x := a' + 1) (by omega), ga_p (x := a' + 1) (by omega)]
        refine weak_R (fun i p1 p2 => by rw [gU_k (by decide), gU_k (by decide)]; exact (i4 i p1 p2).1) fun t t' t1 t2 t3 => ?_
        rw [ga_p (by omega), ga_p (by omega)]
        have k29 : t 29 = gU s 29 j (-4) 29 := t1 29 (by decide)
        have k21 : t' 21 = gU s' 21 j 0 21 := t2 21 (by decide)
        have kk : ∀ k, k ≠ 29 → k ≠ 35 → t k = s k := fun k a b => by rw [t1 k b, gU_k a]
        have kk' : ∀ k, k ≠ 21 → k ≠ 28 → t' k = s' k := fun k a b => by rw [t2 k b, gU_k a]
        have w28 : ∀ i, gU s' 21 j 0 28 i = s' 28 i := fun i => by rw [gU_k (by decide)]
        refine ih t (a' + 1) t' (a' + 1) ⟨⟨rfl, by omega, by omega⟩, i2.trans ⟨fun k a => ?_, fun k a => ?_, fun i a => by rw [kk' 0 (by decide) (by decide)], by rw [kk 4 (by decide) (by decide)]⟩, fun o o1 o2 => ?_, fun i p1 p2 => ?_, ?_, fun o o1 o2 o3 => ?_, fun o o1 o2 o3 => ?_⟩
        · simp only [List.mem_cons, List.not_mem_nil, or_false, not_or] at a; exact kk k a.1 a.2
        · simp only [List.mem_cons, List.not_mem_nil, or_false, not_or] at a; exact kk' k a.1 a.2
        · have := i3 o o1 o2
          unfold HO at this ⊢
          rw [k29, k21, kk 30 (by decide) (by decide), kk 31 (by decide) (by decide), kk 32 (by decide) (by decide), kk 33 (by decide) (by decide), kk' 22 (by decide) (by decide), kk' 23 (by decide) (by decide), kk' 24 (by decide) (by decide), kk' 25 (by decide) (by decide), kk' 26 (by decide) (by decide), gU_at, gU_at]
          by_cases d : o = j
          · rw [if_pos d, if_pos d]; exact ⟨this.1, Or.inl ⟨rfl, rfl⟩⟩
          · rw [if_neg d, if_neg d]; exact this
        · have q := t3 i p1 p2
          rw [w28] at q
          refine ⟨q.1, ?_⟩
          rw [q.2]
          by_cases d : s' 28 i = j
          · rw [if_pos d]; exact Or.inl rfl
          · rw [if_neg d]
            rcases (i4 i p1 p2).2 with z | z
            · exact Or.inl z
            · refine Or.inr ⟨z.1, ?_⟩
              rw [k21, gU_i d]; exact z.2
        · rw [k21, gcnt_upd (f := s' 21) (g := gU s' 21 j 0 21) (c := j) 40 j1 j2 (fun b hb => gU_i hb), gU_e, x2]; omega
        · rw [k21, gU_at] at o3
          by_cases d : o = j
          · rw [if_pos d] at o3; omega
          · rw [if_neg d] at o3
            have := i6 o o1 o2 o3
            exact ⟨this.1, fun z => this.2 (by omega)⟩
        · rw [k21, gU_at]
          by_cases d : o = j
          · rw [d] at o3; omega
          · rw [if_neg d]; exact i7 o o1 o2 o3
      · rw [if_neg c, if_neg c, ga_p (by omega), ga_p (by omega)]
        refine ih s a' s' a' ⟨⟨rfl, by omega, by omega⟩, i2, i3, i4, i5, fun o o1 o2 o3 => ⟨(i6 o o1 o2 o3).1, fun z => ?_⟩, i7⟩
        by_cases d : o = j
        · rw [d]; have := (w.2.2 j j1 j2).2; omega
        · exact (i6 o o1 o2 o3).2 (by omega)
    · have z : s' 21 j = 0 := Decidable.byContradiction fun z => x1 ⟨⟨j1, j2⟩, (i3 j j1 j2).ex.2.1.mp z⟩
      rw [gk_e x3, if_pos rfl, if_pos z, ga_p (by omega), ga_p (by omega)]
      refine ih s a' s' a' ⟨⟨rfl, by omega, by omega⟩, i2, i3, i4, i5, fun o o1 o2 o3 => ⟨(i6 o o1 o2 o3).1, fun y => ?_⟩, i7⟩
      by_cases d : o = j
      · rw [d] at o3; omega
      · exact (i6 o o1 o2 o3).2 (by omega)
  · rintro rec rec' s a s' a' ⟨⟨e, i1, i1'⟩, i2, i3, i4, i5, i6, i7⟩
    subst e
    unfold l_He_buryOthers_4 l_Mo_bury_4
    rw [if_neg (by decide), if_neg (by decide)]
    have M : MM B s s' := h.1.fx i2 (by decide) (by decide) (by decide)
    have e4 : s 4 = σ 4 := i2.1 4 (by decide)
    have D : HD s' := by
      intro o o' o1 o2 p1 p2 t1 t2 hne
      rw [i2.2.1 22 (by decide), i2.2.1 23 (by decide)]
      exact hD o o' o1 o2 p1 p2 (i6 o o1 o2 t1).1 (i6 o' p1 p2 t2).1 hne
    have hc := M.1.2.2.2.1 12 (by decide) (by decide) (by decide) (by decide) (by decide)
    have H : HH B s (gU s' 21 0 (s' 21 0)) → True := fun _ => trivial
    have hg := gcnt_le (f := s' 21) 40 (fun b b1 b2 => by rcases (i3 b b1 b2).2 with z | z <;> omega)
    have R1 : RR (B + a') (gU (gU s 4 11 (s 4 11 - a')) 4 12 (s 4 12 + a')) (gU s' 30 12 (s' 30 12 + a')) := by
      have R : RR B (gU s 4 11 (s 4 11 - a')) s' := by
        refine ⟨M.t11, fun o o1 o2 => ?_, D, ⟨fun i p1 p2 => ?_, fun i p1 p2 => ?_⟩, ?_⟩
        · have := i3 o o1 o2
          unfold HO at this ⊢
          rw [gU_k (show (29 : Nat) ≠ 4 by decide), gU_k (show (30 : Nat) ≠ 4 by decide), gU_k (show (31 : Nat) ≠ 4 by decide), gU_k (show (32 : Nat) ≠ 4 by decide), gU_k (show (33 : Nat) ≠ 4 by decide), gU_i (show (14 : Int) ≠ 11 by decide), e4]
          exact this
        · rw [gU_k (by decide), i2.1 34 (by decide), i2.2.1 27 (by decide)]
          have q := hr1 i p1 p2
          refine ⟨q.1, ?_⟩
          rcases q.2 with z | z
          · exact Or.inl z
          · refine Or.inr ⟨z.1, i7 _ z.1.1 z.1.2 ?_⟩
            rcases hroot i p1 p2 with y | y
            · omega
            · exact y
        · rw [gU_k (by decide)]; exact i4 i p1 p2
        · rw [gU_e, e4]; omega
      have c := R.cnt (c := 12) (n := a') (by decide) (by decide) (by decide) (by decide) (by decide) i1
      rw [gU_i (show (12 : Int) ≠ 11 by decide)] at c
      exact c
    have eq : gU (gU s 4 12 (s 4 12 + a')) 4 11 (s 4 11 - a') = gU (gU s 4 11 (s 4 11 - a')) 4 12 (s 4 12 + a') := by
      funext k i
      unfold gU
      by_cases c : k = 4 ∧ i = 11
      · rw [if_pos c, if_neg (by omega), if_pos c]
      · rw [if_neg c]
        by_cases d : k = 4 ∧ i = 12
        · rw [if_pos d, if_pos d]
        · rw [if_neg d, if_neg d, if_neg c]
    have l11 : gU s 4 12 (s 4 12 + a') 4 11 = s 4 11 := gU_i (by decide)
    dsimp only
    rw [gk_e (add_e (σ := s) (c := 12) (n := a') (B := B) (by decide) (by decide) (by omega) i1 (by omega)), ga_p (by omega)]
    have ad : F_Le_add (gU s 4 12 (s 4 12 + a')) 11 (-a') = some (gU (gU s 4 12 (s 4 12 + a')) 4 11 (s 4 11 - a'), 0) := by
      unfold F_Le_add
      rw [gi_p (by decide), l11, ga_p (by rw [e4]; omega), gw_p (by decide)]
      rfl
    rw [gk_e ad, gi_p (by decide), ga_p (by omega), gw_p (by decide), eq]
    refine sim_ret ⟨rfl, R1.mono (by omega), ?_⟩
    rw [gU_k (by decide), gU_k (by decide), gU_k (by decide), i2.1 28 (by decide), w.1.1, w.1.2]
    refine gcnt_congr 40 fun b b1 b2 => ?_
    have q := (w.2.2 b b1 b2).2
    by_cases c : τ 33 b = 1
    · rw [c, i7 b b1 b2 c]
    · have z : ¬ s' 21 b = 1 := fun z => c ((i6 b b1 b2 z).2 b2)
      have := (i3 b b1 b2).ex.2.1
      have z0 : s' 21 b = 0 := Decidable.byContradiction fun y => z (this.mp y)
      omega
theorem age_R {B p : Int} {σ τ : gM} (h : RR B σ τ) (hB : B + 10 ≤ 1073741824) : Sim (j_He_collect_113 σ p) (j_Mo_gatherNow_210 τ p) (fun s r s' r' => r' = r ∧ RR (B + 1) s s') := by
  obtain ⟨hO, hD, hR, h11⟩ := h.2
  unfold j_He_collect_113 j_Mo_gatherNow_210
  refine sim_gl1 (lo := 0) (hi := 40) (fun j s s' => FrX [31] [24] [] σ τ s s' ∧ ∀ o, 0 ≤ o → o < 40 → HO (B + 1) (σ 4 14) s s' o ∧ (j ≤ o → s' 24 o ≤ B)) ?_ ?_ 200 200 0 σ τ (by omega) (by omega) (by omega) (by omega) ⟨FrX.refl _ _ _ _ _, fun o o1 o2 => ⟨⟨⟨(hO o o1 o2).1.1, by have := (hO o o1 o2).1.2; omega⟩, (hO o o1 o2).2⟩, fun _ => (hO o o1 o2).1.2⟩⟩
  · rintro rec rec' j s s' j1 j2 ⟨i1, i2⟩ ih
    unfold l_He_collect_116 l_Mo_gatherNow_212 j_He_collect_143 j_Mo_gatherNow_239_24
    have hj := i2 j j1 j2
    have hb := hj.2 (Int.le_refl _)
    have hb0 := hj.1.1.1
    rw [if_pos j2, if_pos j2, gi_p (by omega), gi_p (by omega)]
    rcases has_R (o := j) (fun o o1 o2 => (i2 o o1 o2).1) with ⟨x1, x2, x3, -⟩ | ⟨x1, x3, -⟩
    · have e31 : s 31 j = s' 24 j := by
        rcases hj.1.2 with z | z
        · omega
        · exact z.2.1.2.2.1
      rw [gk_e x3, if_neg (show ¬ (1 : Int) = 0 by decide), gi_p (by omega), if_neg (show ¬ s' 21 j = 0 by omega), e31, ga_p (x := s' 24 j + 1) (by omega), ga_p (x := s' 24 j + 1) (by omega), gw_p (by omega), gw_p (by omega), ga_p (by omega), ga_p (by omega)]
      refine ih _ _ ⟨i1.trans (frUp (by decide) (by decide)), fun o o1 o2 => ?_⟩
      have := i2 o o1 o2
      unfold HO at this ⊢
      rw [gU_k (show (29 : Nat) ≠ 31 by decide), gU_k (show (30 : Nat) ≠ 31 by decide), gU_k (show (32 : Nat) ≠ 31 by decide), gU_k (show (33 : Nat) ≠ 31 by decide), gU_k (show (21 : Nat) ≠ 24 by decide), gU_k (show (22 : Nat) ≠ 24 by decide), gU_k (show (23 : Nat) ≠ 24 by decide), gU_k (show (25 : Nat) ≠ 24 by decide), gU_k (show (26 : Nat) ≠ 24 by decide), gU_at, gU_at]
      by_cases c : o = j
      · rw [if_pos c, if_pos c]
        refine ⟨⟨by omega, this.1.2.imp id fun ⟨y1, ⟨y2, y3, y4, y5, y6⟩, y7⟩ => ⟨y1, ⟨y2, y3, rfl, y5, y6⟩, y7⟩⟩, fun z => by omega⟩
      · rw [if_neg c, if_neg c]; exact ⟨this.1, fun z => this.2 (by omega)⟩
    · have z : s' 21 j = 0 := Decidable.byContradiction fun z => x1 ⟨⟨j1, j2⟩, hj.1.ex.2.1.mp z⟩
      rw [gk_e x3, if_pos rfl, if_pos z, ga_p (by omega), ga_p (x := s' 24 j + 0) (by omega), gw_p (by omega), ga_p (by omega), gU_id (by omega)]
      exact ih s s' ⟨i1, fun o o1 o2 => ⟨(i2 o o1 o2).1, fun z => (i2 o o1 o2).2 (by omega)⟩⟩
  · rintro rec rec' s s' ⟨i1, i2⟩
    unfold l_He_collect_116 l_Mo_gatherNow_212
    rw [if_neg (by decide), if_neg (by decide), gpb_p (by decide), gpb_p (by decide)]
    refine sim_ret ⟨rfl, RR.flag ⟨(h.1.fx i1 (by decide) (by decide) (by decide)).mono (by omega), fun o o1 o2 => ?_, ?_, ?_, ?_⟩ (Or.inl rfl)⟩
    · rw [i1.1 4 (by decide)]; exact (i2 o o1 o2).1
    · unfold HD
      rw [i1.2.1 21 (by decide), i1.2.1 22 (by decide), i1.2.1 23 (by decide)]; exact hD
    · unfold HR
      rw [i1.1 34 (by decide), i1.1 35 (by decide), i1.2.1 21 (by decide), i1.2.1 27 (by decide), i1.2.1 28 (by decide)]; exact hR
    · rw [i1.1 4 (by decide), i1.2.1 21 (by decide)]; exact h11
