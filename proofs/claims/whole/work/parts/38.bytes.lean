/-! how many frames; bytes of the memory -/
theorem MM.frm {B B' : Int} {σ τ s s' : gM} (h : MM B σ τ) (r : R0 B' s s') (l : Ln B' s s') (f : FrM σ τ s s') (z : τ 0 18 ≤ s' 0 18) (hb : B ≤ B') : MM B' s s' := by
  obtain ⟨h0, hL, hP, hw, hr⟩ := h
  have x := f.x
  refine ⟨r, l, (hP.fx x (by decide) (by decide) (by decide) z).mono hb, fun q q1 q2 => ?_, ?_⟩
  · rw [x.1 19 (by decide), x.2.1 18 (by decide)]; exact hw q q1 q2
  · rw [x.1 20 (by decide), x.1 21 (by decide), x.2.1 20 (by decide), x.2.2.1 29 (by decide)]; exact hr
theorem sim_ld {B p a : Int} {σ τ : gM} {K K' : gM → Int → gO} {Q : gM → Int → gM → Int → Prop} (h : MM B σ τ) (hp : 0 ≤ p) (hp2 : p < 2) (ha : 0 ≤ a) (ha2 : a < 1024) (hB : B + 400 ≤ 1073741824)
    (k : ∀ s r s', MM (B + 400) s s' → FrX LPC LPM LP0 σ τ s s' → (r = -5 ∨ (0 ≤ r ∧ r ≤ 255)) → Sim (K s r) (K' s' r) Q) :
    Sim (gk (F_Me_touch σ a) fun s1 a2 => gk (F_Ca_ask s1 p a2) K) (gk (F_Mo_loadByte τ p a) K') Q := by
  obtain ⟨s, r, s', r', e1, e2, rfl, hr, hm, hf⟩ := touch_R h ha ha2 (by omega)
  unfold F_Mo_loadByte
  rw [gk_e e1, gk_e e2]
  obtain ⟨t, x, t', x', d1, d2, q1, q2, rfl, q4, q5, q6⟩ := read_R hm.1 hm.2.1 hp hp2 hr.1 hr.2 (by omega)
  rw [gk_e d1, gk_e d2, gk_s]
  exact k t x' t' ((hm.frm q1 q2 q5 (by omega) (by omega)).mono (by omega)) (hf.trans (q5.x.mono (by decide) (by decide) (by decide))) q4
theorem sim_sv {B p a v : Int} {σ τ : gM} {K K' : gM → Int → gO} {Q : gM → Int → gM → Int → Prop} (h : MM B σ τ) (hp : 0 ≤ p) (hp2 : p < 2) (ha : 0 ≤ a) (ha2 : a < 1024) (hv : 0 ≤ v) (hv2 : v ≤ 255) (hB : B + 400 ≤ 1073741824)
    (k : ∀ s s' r r', MM (B + 400) s s' → FrX LPC LPM LP0 σ τ s s' → Sim (K s r) (K' s' r') Q) :
    Sim (gk (F_Me_touch σ a) fun s1 a2 => gk (F_Ca_change s1 p a2 v) K) (gk (F_Mo_saveByte τ p a v) K') Q := by
  obtain ⟨s, r, s', r', e1, e2, rfl, hr, hm, hf⟩ := touch_R h ha ha2 (by omega)
  unfold F_Mo_saveByte
  rw [gk_e e1, gk_e e2]
  obtain ⟨t, x, t', x', d1, d2, q1, q2, q5, q6⟩ := write_R hm.1 hm.2.1 hp hp2 hr.1 hr.2 hv hv2 (by omega)
  rw [gk_e d1, gk_e d2, gk_s]
  exact k t t' x 0 ((hm.frm q1 q2 q5 (by omega) (by omega)).mono (by omega)) (hf.trans (q5.x.mono (by decide) (by decide) (by decide)))
def LR0 : List Int := [4, 19, 21]
theorem frames_R {B v : Int} {σ τ : gM} (h : MM B σ τ) (hB : B + 21000 ≤ 1073741824) :
    Sim (F_Co_frames σ v) (F_Mo_frames τ v) (fun s r s' r' => r' = r ∧ MM (B + 21000) s s' ∧ FrX LPC LPM LR0 σ τ s s') := by
  obtain ⟨h0, hL, hP, hw, hr⟩ := id h
  unfold F_Co_frames F_Mo_frames j_Co_frames_11
  have non : Sim (some (σ, -1)) (some (τ, -1)) (fun s r s' r' => r' = r ∧ MM (B + 21000) s s' ∧ FrX LPC LPM LR0 σ τ s s') := sim_ret ⟨rfl, h.mono (by omega), FrX.refl _ _ _ _ _⟩
  by_cases c1 : v < 1
  · rw [if_pos c1, gk_e (in_n (Or.inl c1)), if_pos rfl]; exact non
  by_cases c2 : 16 < v
  · rw [if_neg c1, if_pos c2, gk_e (in_n (Or.inr c2)), if_pos rfl]; exact non
  rw [if_neg c1, if_neg c2, gk_e (in_y ⟨by omega, by omega⟩), if_neg (by decide), gv_p, gv_p, hP.1.1.1]
  unfold F_Me_resize
  have key : Sim (gl1 (l_Me_resize_2 v) 200 σ v) (gl1 (l_Mo_frames_19 (fun s4 => gp s4 0 19 v fun s5 => gp s5 0 21 0 fun s6 => some (s6, τ 0 19)) v (τ 0 19)) 200 τ v) (fun s r s' r' => r' = τ 0 19 ∧ MM (B + 21000) s s' ∧ FrX LPC LPM LR0 σ τ s s') := by
    refine sim_gl1 (lo := v) (hi := 16) (fun j s s' => R0 (B + 1300 * (j - v)) s s' ∧ Ln (B + 1300 * (j - v)) s s' ∧ Rpa (B + 1300 * (j - v)) (-1) 0 s s' ∧ FrX [3, 4, 6, 7, 8, 9, 10, 11, 12, 13, 14, 15, 16, 18, 23, 27] [0, 1, 2, 3, 4, 5, 6, 7, 8, 9, 10, 11, 12, 13, 17, 19, 29, 30] [4] σ τ s s' ∧ ∀ g, v ≤ g → g < j → s' 13 g = -4) ?_ ?_ 200 200 v σ τ (by omega) (by omega) (by omega) (by omega) ⟨h0.mono (by omega), hL.mono (by omega), hP.mono (by omega), FrX.refl _ _ _ _ _, fun g g1 g2 => by omega⟩
    · rintro rec rec' j s s' j1 j2 ⟨i1, i2, i3, i4, i5⟩ ih
      unfold l_Me_resize_2 l_Mo_frames_19 j_Me_resize_25 j_Mo_frames_42
      have hj := i3.2.2.1 j (by omega) j2
      rw [if_pos j2, if_pos j2, gi_p (by omega), gi_p (by omega), hj.1]
      by_cases c : s' 13 j = -4
      · rw [if_pos c, if_pos c, ga_p (by omega), ga_p (by omega)]
        exact ih s s' ⟨i1.mono (by omega), i2.mono (by omega), i3.mono (by omega), i4, fun g g1 g2 => by
          by_cases e : g = j
          · rw [e]; exact c
          · exact i5 g g1 (by omega)⟩
      · rw [if_neg c, if_neg c]
        refine sim_bind (leave_R (t := 0) i1 i2 (Or.inr i3) (by omega) j2 c (Or.inl ⟨rfl, rfl⟩) (by omega)) fun t _ t' _ ⟨q1, q2, q3, q4, q5⟩ => ?_
        rw [ga_p (by omega), ga_p (by omega)]
        refine ih t t' ⟨q1.mono (by omega), q2.mono (by omega), (q3 0 i3).mono (by omega), i4.trans q4, fun g g1 g2 => ?_⟩
        rw [q5, gU_at]
        split
        · rfl
        · exact i5 g g1 (by omega)
    · rintro rec rec' s s' ⟨i1, i2, i3, i4, i5⟩
      unfold l_Me_resize_2 l_Mo_frames_19
      rw [if_neg (by decide), if_neg (by decide), gp_p, gp_p]
      dsimp only
      rw [gp_p, gp_p]
      have w17 : ∀ j, j ≠ 0 → j ≠ 4 → gU (gU s 17 0 v) 17 4 0 17 j = s 17 j := fun j a b => by rw [gU_i b, gU_i a]
      have w170 : gU (gU s 17 0 v) 17 4 0 17 0 = v := by rw [gU_i (by decide), gU_e]
      have w174 : gU (gU s 17 0 v) 17 4 0 17 4 = 0 := gU_e
      have wk : ∀ k, k ≠ 17 → gU (gU s 17 0 v) 17 4 0 k = s k := fun k a => by rw [gU_k a, gU_k a]
      have v0 : ∀ j, j ≠ 19 → j ≠ 21 → gU (gU s' 0 19 v) 0 21 0 0 j = s' 0 j := fun j a b => by rw [gU_i b, gU_i a]
      have v019 : gU (gU s' 0 19 v) 0 21 0 0 19 = v := by rw [gU_i (by decide), gU_e]
      have v021 : gU (gU s' 0 19 v) 0 21 0 0 21 = 0 := gU_e
      have vk : ∀ k, k ≠ 0 → gU (gU s' 0 19 v) 0 21 0 k = s' k := fun k a => by rw [gU_k a, gU_k a]
      generalize gU (gU s 17 0 v) 17 4 0 = w at *
      generalize gU (gU s' 0 19 v) 0 21 0 = w' at *
      have fx : FrX [17] [0] [19, 21] s s' w w' := by
        refine ⟨fun k a => ?_, fun k a => ?_, fun j a => ?_, by rw [wk 4 (by decide)]⟩
        · simp only [List.mem_cons, List.not_mem_nil, or_false, not_or] at a
          exact wk k a
        · simp only [List.mem_cons, List.not_mem_nil, or_false, not_or] at a
          exact vk k a
        · simp only [List.mem_cons, List.not_mem_nil, or_false, not_or] at a
          exact v0 j a.1 a.2
      have fa := (i4.mono (LC' := LPC) (LM' := LPM) (L0' := LR0) (by decide) (by decide) (by decide)).trans (fx.mono (by decide) (by decide) (by decide))
      refine sim_ret ⟨rfl, ⟨(i1.fx fx (by decide) (by decide) (by decide)).mono (by omega), (i2.fx fx (by decide) (by decide) (by decide)).mono (by omega), ?_, fun q q1 q2 => ?_, ?_⟩, fa⟩
      · obtain ⟨⟨p1, p1b, p1c⟩, p2, p3, p4, p5, p6⟩ := i3
        unfold Rpa Rdk
        rw [w170, w174, w17 5 (by decide) (by decide), v019, v021, v0 18 (by decide) (by decide), wk 18 (by decide), wk 23 (by decide), wk 24 (by decide), wk 25 (by decide), wk 26 (by decide), wk 27 (by decide), vk 13 (by decide), vk 14 (by decide), vk 15 (by decide), vk 16 (by decide), vk 17 (by decide), vk 19 (by decide)]
        refine ⟨⟨⟨rfl, by omega, by omega⟩, ⟨rfl, by omega, by omega⟩, p1c.1, by omega⟩, fun q q1 q2 => ⟨(p2 q q1 q2).1, ?_⟩, fun f f1 f2 => ?_, p4, p5, p6⟩
        · rcases (p2 q q1 q2).2 with z | z
          · exact Or.inl z
          · refine Or.inr ⟨⟨z.1.1, Decidable.byContradiction fun n => ?_⟩, z.2⟩
            have := i5 (s' 17 q) (by omega) (by omega)
            omega
        · refine ⟨(p3 f f1 f2).1, ?_, (p3 f f1 f2).2.2⟩
          rcases (p3 f f1 f2).2.1 with z | z
          · exact Or.inl z
          · refine Or.inr ⟨z.1, z.2.1, Decidable.byContradiction fun n => ?_⟩
            have := i5 f (by omega) (by omega)
            omega
      · rw [wk 19 (by decide), vk 18 (by decide), i4.1 19 (by decide), i4.2.1 18 (by decide)]; exact hw q q1 q2
      · rw [wk 20 (by decide), wk 21 (by decide), vk 20 (by decide), v0 29 (by decide) (by decide), i4.1 20 (by decide), i4.1 21 (by decide), i4.2.1 20 (by decide), i4.2.2.1 29 (by decide)]; exact hr
  obtain ⟨s, r, s', r', e1, e2, q1, q2, q3⟩ := key
  rw [gk_e e1, e2]
  exact sim_ret ⟨q1, q2, q3⟩
/-- all ticks -/
theorem ticks_e {B : Int} {τ : gM} (h : ∀ c, 0 ≤ c → c < 8 → 0 ≤ τ 29 c) (hB : tsum (τ 29) ≤ B) (hB2 : B ≤ 1073741824) : F_Mo_allTicks τ = some (τ, tsum (τ 29)) := by
  unfold F_Mo_allTicks
  have h0 := h 0 (by decide) (by decide)
  have h1 := h 1 (by decide) (by decide)
  have h2 := h 2 (by decide) (by decide)
  have h3 := h 3 (by decide) (by decide)
  have h4 := h 4 (by decide) (by decide)
  have h5 := h 5 (by decide) (by decide)
  have h6 := h 6 (by decide) (by decide)
  have h7 := h 7 (by decide) (by decide)
  unfold tsum at hB ⊢
  have one : ∀ (n : Nat) (a j j' : Int), j' = j + 1 → 0 ≤ j → j < 8 → -9223372036854775808 ≤ a + τ 29 j ∧ a + τ 29 j ≤ 9223372036854775807 → gl2 l_Mo_allTicks_4 (n + 1) τ a j = gl2 l_Mo_allTicks_4 n τ (a + τ 29 j) j' := by
    intro n a j j' e j1 j2 hh
    subst e
    show l_Mo_allTicks_4 (gl2 l_Mo_allTicks_4 n) τ a j = _
    unfold l_Mo_allTicks_4
    rw [if_pos j2, gi_p ⟨j1, j2⟩, gal_p hh, ga_p (by omega)]
  rw [show (200 : Nat) = 192 + 8 from rfl, one _ _ 0 1 (by decide) (by decide) (by decide) (by omega), one _ _ 1 2 (by decide) (by decide) (by decide) (by omega), one _ _ 2 3 (by decide) (by decide) (by decide) (by omega), one _ _ 3 4 (by decide) (by decide) (by decide) (by omega), one _ _ 4 5 (by decide) (by decide) (by decide) (by omega), one _ _ 5 6 (by decide) (by decide) (by decide) (by omega), one _ _ 6 7 (by decide) (by decide) (by decide) (by omega), one _ _ 7 8 (by decide) (by decide) (by decide) (by omega)]
  show l_Mo_allTicks_4 (gl2 l_Mo_allTicks_4 191) τ _ _ = _
  unfold l_Mo_allTicks_4
  rw [if_neg (by decide), show (0 : Int) + τ 29 0 = τ 29 0 by omega]
theorem R0.ticks {B : Int} {σ τ : gM} (h : R0 B σ τ) (hB : B ≤ 1073741824) : F_Mo_allTicks τ = some (τ, σ 4 14) ∧ 0 ≤ σ 4 14 ∧ σ 4 14 ≤ B := by
  obtain ⟨-, -, ⟨-, -, b3, b4, b5⟩, -⟩ := h
  rw [b4]
  have := tsum_nn (t := τ 29) (fun c c1 c2 => (b3 c c1 c2).2) 0 (by decide) (by decide)
  exact ⟨ticks_e (fun c c1 c2 => (b3 c c1 c2).2) b5 hB, by omega, b5⟩
