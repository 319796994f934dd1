/-! gathering whole; making -/
theorem sim_gl21 {lo hi : Int} {body : (gM → Int → Int → gO) → gM → Int → Int → gO} {body' : (gM → Int → gO) → gM → Int → gO} {Q : gM → Int → gM → Int → Prop} (I : Int → gM → Int → gM → Prop)
    (hstep : ∀ rec rec' j s a s', lo ≤ j → j < hi → I j s a s' → (∀ t b t', I (j + 1) t b t' → Sim (rec t b (j + 1)) (rec' t' (j + 1)) Q) → Sim (body rec s a j) (body' rec' s' j) Q)
    (hend : ∀ rec rec' s a s', I hi s a s' → Sim (body rec s a hi) (body' rec' s' hi) Q) :
    ∀ (n n' : Nat) (j : Int) (s : gM) (a : Int) (s' : gM), lo ≤ j → j ≤ hi → hi - j < n → hi - j < n' → I j s a s' → Sim (gl2 body n s a j) (gl1 body' n' s' j) Q
  | 0, _, j, s, a, s', h1, h2, h3, h4, hI => by omega
  | n + 1, 0, j, s, a, s', h1, h2, h3, h4, hI => by omega
  | n + 1, n' + 1, j, s, a, s', h1, h2, h3, h4, hI => by
    show Sim (body (gl2 body n) s a j) (body' (gl1 body' n') s' j) Q
    by_cases hj : j = hi
    · subst hj; exact hend _ _ s a s' hI
    · exact hstep _ _ j s a s' h1 (by omega) hI fun t b t' hI' => sim_gl21 I hstep hend n n' (j + 1) t b t' (by omega) (by omega) (by omega) (by omega) hI'
def Rts (τ : gM) : Prop := ∀ i, 0 ≤ i → i < 8 → τ 27 i = -1 ∨ τ 33 (τ 27 i) = 1
theorem Rts.up {τ s' : gM} (h : Rts τ) (e : s' 27 = τ 27) (g : ∀ p, τ 33 p = 1 → s' 33 p = 1) : Rts s' := fun i i1 i2 => by
  rw [e]
  exact (h i i1 i2).imp id (g _)
theorem start_row {B kd : Int} {σ τ : gM} {K : gM → Int → gO} {Q : gM → Int → gM → Int → Prop} (h : RR B σ τ)
    (k : ∀ s s', RR B s s' → RW s s' → Rts s' → Sim (K s 0) (j_Mo_gatherNow_118 s' kd) Q) :
    Sim (gk (F_He_startRow σ kd) K) (gp τ 0 46 0 fun s4 => gl1 (l_Mo_gatherNow_23 (fun s5 => gl1 (l_Mo_gatherNow_44 (fun s6 => gl1 (l_Mo_gatherNow_77 (fun s7 => j_Mo_gatherNow_118 s7 kd) kd) 200 s6 0) kd) 200 s5 0) kd) 200 s4 0) Q := by
  unfold F_He_startRow
  rw [gp_p, gp_p]
  refine to2_gl1 (lo := 0) (hi := 40) (R := fun o o' => Sim (gk o K) o' Q) (fun j s s' => FrX [28, 37] [0, 33] [46] σ τ s s' ∧ s 28 9 = 0 ∧ s' 0 46 = 0 ∧ ∀ o, 0 ≤ o → o < j → s 37 o = 0 ∧ s' 33 o = 0) ?_ ?_ 200 200 0 _ _ (by omega) (by omega) (by omega) (by omega) ⟨⟨fun k a => ?_, fun k a => ?_, fun i a => ?_, by rw [gU_k (by decide)]⟩, gU_e, gU_e, fun o o1 o2 => by omega⟩
  · rintro rec rec' j s s' j1 j2 ⟨i1, i2, i3, i4⟩ ih
    unfold l_He_startRow_7 l_Mo_gatherNow_23
    rw [if_pos j2, if_pos j2, gwb_p ⟨by omega, by decide⟩, gwb_p ⟨by omega, by decide⟩, ga_p (by omega), ga_p (by omega)]
    refine ih _ _ ⟨i1.trans ⟨fun k a => ?_, fun k a => ?_, fun i a => by rw [gU_k (by decide)], by rw [gU_k (by decide)]⟩, by rw [gU_k (by decide)]; exact i2, by rw [gU_k (by decide)]; exact i3, fun o o1 o2 => ?_⟩
    · simp only [List.mem_cons, List.not_mem_nil, or_false, not_or] at a; rw [gU_k a.2]
    · simp only [List.mem_cons, List.not_mem_nil, or_false, not_or] at a; rw [gU_k a.2]
    · rw [gU_at, gU_at]
      split
      · exact ⟨rfl, rfl⟩
      · exact i4 o o1 (by omega)
  · rintro rec rec' s s' ⟨i1, i2, i3, i4⟩
    unfold l_He_startRow_7 l_Mo_gatherNow_23
    rw [if_neg (by decide), if_neg (by decide)]
    have R : RR B s s' := ⟨h.1.fx i1 (by decide) (by decide) (by decide), h.2.fx i1 (by decide) (by decide) (by rw [i1.1 4 (by decide)]; exact Int.le_refl _)⟩
    have W : RW s s' := ⟨⟨by rw [i2, i3], by rw [i3, gcnt_zero 40 (fun b b1 b2 => (i4 b b1 b2).2)]⟩, fun i a b => by omega, fun o o1 o2 => ⟨by rw [(i4 o o1 o2).1, (i4 o o1 o2).2], Or.inl (i4 o o1 o2).2⟩⟩
    refine to2_gl1 (lo := 0) (hi := 8) (R := fun o o' => Sim (gk o K) o' Q) (fun j s s' => RR B s s' ∧ RW s s' ∧ ∀ i, 0 ≤ i → i < j → s' 27 i = -1 ∨ s' 33 (s' 27 i) = 1) ?_ ?_ 200 200 0 s s' (by omega) (by omega) (by omega) (by omega) ⟨R, W, fun i a b => by omega⟩
    · clear i1 i2 i3 i4 R W
      rintro rec rec' j s s' j1 j2 ⟨R, W, G⟩ ih
      unfold l_He_startRow_28 l_Mo_gatherNow_44 j_Mo_gatherNow_69
      have hr := R.2.2.2.1.1 j j1 j2
      rw [if_pos j2, if_pos j2, gi_p (by omega), gi_p (by omega), hr.1]
      rcases hr.2 with c | ⟨c, d⟩
      · rcases has_R (o := s' 27 j) R.2.1 with ⟨x1, -⟩ | ⟨-, x3, -⟩
        · omega
        · rw [gk_e (put_no x3), if_pos (show s' 27 j < 0 by omega), ga_p (by omega), ga_p (by omega)]
          exact ih s s' ⟨R, W, fun i a b => by
            by_cases e : i = j
            · rw [e]; exact Or.inl c
            · exact G i a (by omega)⟩
      · rcases has_R (o := s' 27 j) R.2.1 with ⟨x1, x2, x3, -⟩ | ⟨x1, -⟩
        · obtain ⟨z, z', g1, g2, g3, g4, g5, g6, g7, g8⟩ := put_R W x1 x2 x3
          have e27 : z' 27 = s' 27 := g4.2.1 27 (by decide)
          rw [gk_e g1, if_neg (show ¬ s' 27 j < 0 by omega), gi_p (by omega), gk_e g2, ga_p (by omega), ga_p (by omega)]
          refine ih z z' ⟨R.fp g4, g3, fun i a b => ?_⟩
          rw [e27]
          by_cases e : i = j
          · rw [e]; exact Or.inr g6
          · exact (G i a (by omega)).imp id (g5 _)
        · exact absurd ⟨c, d⟩ x1
    · clear i1 i2 i3 i4 R W
      rintro rec rec' s s' ⟨R, W, G⟩
      unfold l_He_startRow_28 l_Mo_gatherNow_44
      rw [if_neg (by decide), if_neg (by decide)]
      dsimp only
      by_cases c : kd = 2
      · rw [if_pos c]
        refine to2_gl1 (lo := 0) (hi := 40) (R := fun o o' => Sim (gk o K) o' Q) (fun j s s' => RR B s s' ∧ RW s s' ∧ Rts s') ?_ ?_ 200 200 0 s s' (by omega) (by omega) (by omega) (by omega) ⟨R, W, G⟩
        · clear R W G
          rintro rec rec' j s s' j1 j2 ⟨R, W, G⟩ ih
          unfold l_He_startRow_58 l_Mo_gatherNow_77 j_He_startRow_79 j_Mo_gatherNow_112
          rw [if_pos j2, if_pos j2, if_pos c, gi_p (by omega), gi_p (by omega)]
          rcases has_R (o := j) R.2.1 with ⟨x1, x2, x3, -⟩ | ⟨x1, x3, -⟩
          · have e31 : s 31 j = s' 24 j := by
              rcases (R.2.1 j j1 j2).2 with z | z
              · omega
              · exact z.2.1.2.2.1
            rw [if_neg (show ¬ s' 21 j = 0 by omega), gi_p (by omega), e31]
            by_cases d : s' 24 j < 2
            · rw [if_pos d, if_pos d, ga_p (by omega), ga_p (by omega)]
              exact ih s s' ⟨R, W, G⟩
            · obtain ⟨z, z', g1, g2, g3, g4, g5, g6, g7, g8⟩ := put_R W x1 x2 x3
              rw [if_neg d, if_neg d, gk_e g1, gk_e g2, ga_p (by omega), ga_p (by omega)]
              exact ih z z' ⟨R.fp g4, g3, G.up (g4.2.1 27 (by decide)) g5⟩
          · have z : s' 21 j = 0 := Decidable.byContradiction fun z => x1 ⟨⟨j1, j2⟩, (R.2.1 j j1 j2).ex.2.1.mp z⟩
            have fin : (if s 31 j < 2 then ga (j + 1) (fun a1 => rec s a1) else gk (F_He_putBehind s j) fun s1 _ => ga (j + 1) fun a1 => rec s1 a1) = rec s (j + 1) := by
              split
              · rw [ga_p (by omega)]
              · rw [gk_e (put_no x3), ga_p (by omega)]
            rw [fin, if_pos z, ga_p (by omega)]
            exact ih s s' ⟨R, W, G⟩
        · clear R W G
          rintro rec rec' s s' ⟨R, W, G⟩
          unfold l_He_startRow_58 l_Mo_gatherNow_77
          rw [if_neg (by decide), if_neg (by decide)]
          exact k s s' R W G
      · rw [if_neg c]
        show Sim (K s 0) (l_Mo_gatherNow_77 (fun s7 => j_Mo_gatherNow_118 s7 kd) kd (gl1 (l_Mo_gatherNow_77 (fun s7 => j_Mo_gatherNow_118 s7 kd) kd) 199) s' 0) Q
        generalize gl1 (l_Mo_gatherNow_77 (fun s7 => j_Mo_gatherNow_118 s7 kd) kd) 199 = rr
        unfold l_Mo_gatherNow_77
        rw [if_pos (by decide), if_neg c]
        exact k s s' R W G
  · simp only [List.mem_cons, List.not_mem_nil, or_false, not_or] at a; rw [gU_k a.1]
  · simp only [List.mem_cons, List.not_mem_nil, or_false, not_or] at a; rw [gU_k a.1]
  · simp only [List.mem_cons, List.not_mem_nil, or_false, not_or] at a; rw [gU_i a]
theorem RR.rite {B j : Int} {σ τ : gM} (h : RR B σ τ) : RR B (gU σ 32 j 0) (gU τ 25 j 0) := by
  obtain ⟨hO, hD, hR, h11⟩ := h.2
  refine ⟨h.1.fx (frUp (by decide) (by decide)) (by decide) (by decide) (by decide), fun o o1 o2 => ?_, hD, hR, h11⟩
  have := hO o o1 o2
  unfold HO at this ⊢
  rw [gU_k (show (4 : Nat) ≠ 32 by decide), gU_k (show (29 : Nat) ≠ 32 by decide), gU_k (show (30 : Nat) ≠ 32 by decide), gU_k (show (31 : Nat) ≠ 32 by decide), gU_k (show (33 : Nat) ≠ 32 by decide), gU_k (show (21 : Nat) ≠ 25 by decide), gU_k (show (22 : Nat) ≠ 25 by decide), gU_k (show (23 : Nat) ≠ 25 by decide), gU_k (show (24 : Nat) ≠ 25 by decide), gU_k (show (26 : Nat) ≠ 25 by decide), gU_at, gU_at]
  by_cases d : o = j
  · rw [if_pos d, if_pos d]
    exact ⟨this.1, this.2.imp id fun ⟨y1, ⟨y2, y3, y4, y5, y6⟩, y7, y8, y9⟩ => ⟨y1, ⟨y2, y3, y4, rfl, y6⟩, y7, Or.inl rfl, y9⟩⟩
  · rw [if_neg d, if_neg d]; exact this
theorem collect_R {B kd : Int} {σ τ : gM} (h : RR B σ τ) (hk : 0 ≤ kd) (hB : B + 1300000 ≤ 1073741824) : Sim (F_He_collect σ kd) (F_Mo_gatherNow τ kd) (fun s r s' r' => r' = r ∧ RR (B + 1300000) s s') := by
  unfold F_He_collect F_Mo_gatherNow
  rw [gpb_p (by decide), gpb_p (by decide)]
  have R1 := h.flag (g := 1) (Or.inr rfl)
  generalize gU σ 2 2 1 = s1 at R1 ⊢
  generalize gU τ 0 40 1 = s1' at R1 ⊢
  have hc := R1.1.1.2.2.2.1 13 (by decide) (by decide) (by decide) (by decide) (by decide)
  rw [gk_e (add_e (B := B) (by decide) (by decide) (by omega) (by decide) (by omega)), gi_p (by decide), ga_p (by omega), gw_p (by decide)]
  have R2 := R1.cnt (c := 13) (n := 1) (by decide) (by decide) (by decide) (by decide) (by decide) (by decide)
  refine start_row R2 fun s s' R3 W3 G3 => ?_
  unfold j_Mo_gatherNow_118
  refine sim_bind (follow_R R3 W3 (v := 0) (Int.le_refl _) W3.le.1 (by omega)) fun t a t' _ ⟨R4, W4, ea, F4, M4, L4⟩ => ?_
  subst ea
  refine sim_gl21 (lo := 0) (hi := 40) (fun j t a t' => a = t' 0 46 ∧ RR (B + 1 + 9600 * t' 0 46 + j) t t' ∧ RW t t' ∧ Rts t') ?_ ?_ 200 200 0 t _ t' (by omega) (by omega) (by omega) (by omega) ⟨rfl, R4.mono (by omega), W4, G3.up (F4.2.1 27 (by decide)) M4⟩
  · clear R1 R2 hc R3 W3 G3 R4 W4 F4 M4 L4
    rintro rec rec' j t a t' j1 j2 ⟨ea, R, W, G⟩ ih
    subst ea
    have le := W.le
    unfold l_He_collect_31 l_Mo_gatherNow_125 j_He_collect_94 j_Mo_gatherNow_191
    rw [if_pos j2, if_pos j2, gi_p (by omega), gi_p (by omega), gi_p (by omega)]
    have skip : Sim (ga (j + 1) fun a1 => rec t (t' 0 46) a1) (ga (j + 1) fun a1 => rec' t' a1) (fun s r s' r' => r' = r ∧ RR (B + 1300000) s s') := by
      rw [ga_p (by omega), ga_p (by omega)]
      exact ih t _ t' ⟨rfl, R.mono (by omega), W, G⟩
    rcases has_R (o := j) R.2.1 with ⟨x1, x2, x3, -⟩ | ⟨x1, x3, -⟩
    · have e37 := (W.2.2 j j1 j2).1
      have e32 : t 32 j = t' 25 j ∧ (t' 25 j = 0 ∨ t' 25 j = 1) := by
        rcases (R.2.1 j j1 j2).2 with z | z
        · omega
        · exact ⟨z.2.1.2.2.2.1, z.2.2.2.1⟩
      rw [gk_e x3, if_neg (show ¬ (1 : Int) = 0 by decide), gi_p (by omega), gi_p (by omega), if_neg (show ¬ t' 21 j = 0 by omega), e37, e32.1]
      by_cases c : t' 33 j = 0
      · rw [if_pos c, if_pos c]
        by_cases d : t' 25 j = 0
        · rw [if_pos d, if_pos d]; exact skip
        · rw [if_neg d, if_neg d, gwb_p ⟨by omega, by decide⟩, gwb_p ⟨by omega, by decide⟩]
          have Ra := R.rite (j := j)
          have Wa : RW (gU t 32 j 0) (gU t' 25 j 0) := W.fx (frUp (by decide) (by decide)) (by decide) (by decide) (by decide)
          have Ga : Rts (gU t' 25 j 0) := G.up (gU_k (by decide)) (fun p hp => by rw [gU_k (by decide)]; exact hp)
          have a46 : gU t' 25 j 0 0 46 = t' 0 46 := by rw [gU_k (by decide)]
          have a33 : gU t' 25 j 0 33 j = 0 := by rw [gU_k (by decide)]; exact c
          have a21 : gU t' 25 j 0 21 j = 1 := by rw [gU_k (by decide)]; exact x2
          generalize gU t 32 j 0 = u at Ra Wa ⊢
          generalize gU t' 25 j 0 = u' at Ra Wa Ga a46 a33 a21 ⊢
          have hc := Ra.1.1.2.2.2.1 10 (by decide) (by decide) (by decide) (by decide) (by decide)
          have Rb := Ra.cnt (c := 10) (n := 1) (by decide) (by decide) (by decide) (by decide) (by decide) (by decide)
          have Fb := (count_R (c := 10) (n := 1) Ra.1.1 (by decide) (by decide) (by decide) (by decide) (by decide) (by decide)).2.x
          have Wb := Wa.fx Fb (by decide) (by decide) (by decide)
          have Gb := Ga.up (Fb.2.1 27 (by decide)) (fun p hp => by rw [Fb.2.1 33 (by decide)]; exact hp)
          have b46 := Fb.2.2.1 46 (by decide)
          have b33 : gU u' 30 10 (u' 30 10 + 1) 33 j = 0 := by rw [Fb.2.1 33 (by decide)]; exact a33
          rw [gk_e (add_e (B := B + 1 + 9600 * t' 0 46 + j) (by decide) (by decide) (by omega) (by decide) (by omega)), gi_p (by decide), ga_p (by omega), gw_p (by decide), gv_p]
          generalize gU u 4 10 (u 4 10 + 1) = w at Rb Fb Wb ⊢
          generalize gU u' 30 10 (u' 30 10 + 1) = w' at Rb Fb Wb Gb b46 b33 ⊢
          rcases has_R (o := j) Rb.2.1 with ⟨y1, y2, y3, -⟩ | ⟨y1, y3, -⟩
          · obtain ⟨z, z', g1, g2, g3, g4, g5, g6, g7, g8⟩ := put_R Wb y1 y2 y3
            have := g8 b33
            have zle := g3.le
            rw [gk_e g1, gk_e g2, b46, a46]
            refine sim_bind (follow_R (Rb.fp g4) g3 (v := t' 0 46) le.1 (by omega) (by omega)) fun q a q' _ ⟨R5, W5, ea, F5, M5, L5⟩ => ?_
            subst ea
            rw [ga_p (by omega), ga_p (by omega)]
            exact ih q _ q' ⟨rfl, R5.mono (by omega), W5, (Gb.up (g4.2.1 27 (by decide)) g5).up (F5.2.1 27 (by decide)) M5⟩
          · refine absurd ⟨⟨j1, j2⟩, ?_⟩ y1
            rw [Fb.2.1 21 (by decide)]
            exact a21
      · rw [if_neg c, if_neg c]; exact skip
    · have z : t' 21 j = 0 := Decidable.byContradiction fun z => x1 ⟨⟨j1, j2⟩, (R.2.1 j j1 j2).ex.2.1.mp z⟩
      rw [gk_e x3, if_pos rfl, if_pos z]; exact skip
  · clear R1 R2 hc R3 W3 G3 R4 W4 F4 M4 L4
    rintro rec rec' t a t' ⟨ea, R, W, G⟩
    have le := W.le
    unfold l_He_collect_31 l_Mo_gatherNow_125
    rw [if_neg (by decide), if_neg (by decide)]
    dsimp only
    refine sim_bind (bury_R R W G (by omega)) fun q r q' r' ⟨er, R5, e28⟩ => ?_
    subst er
    by_cases c : kd = 0
    · rw [if_pos c, if_neg (show ¬ 0 < kd by omega)]
      exact sim_mono (age_R R5 (by omega)) fun _ _ _ _ ⟨a, b⟩ => ⟨a, b.mono (by omega)⟩
    · rw [if_neg c, if_pos (show 0 < kd by omega)]
      refine sim_bind (closeUp_R R5 e28 (by omega)) fun q r q' r' R6 => ?_
      exact sim_mono (age_R R6 (by omega)) fun _ _ _ _ ⟨a, b⟩ => ⟨a, b.mono (by omega)⟩
theorem gather_P {B v1 : Int} {σ τ : gM} (h : RR B σ τ) (hB : B + 2000000 ≤ 1073741824) : Pa B (F_Co_gather σ v1) (F_Mo_gather τ v1) := by
  unfold F_Co_gather F_Mo_gather j_Mo_gather_18
  by_cases d : 0 ≤ v1 ∧ v1 ≤ 2
  · rw [gk_e (within_y d), gk_e (in_y d), if_neg (show ¬ (1 : Int) = 0 by decide), if_neg (show ¬ (1 : Int) = 0 by decide)]
    exact sim_bind (collect_R h d.1 (by omega)) fun _ _ _ _ ⟨a, b⟩ => sim_ret ⟨a, b.mono (by omega)⟩
  · rw [gk_e (within_n (by omega)), gk_e (in_n (by omega)), if_pos rfl, if_pos rfl]
    exact pa_ret h
