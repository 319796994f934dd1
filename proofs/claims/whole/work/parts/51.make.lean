/-! making an object -/
theorem place_R {B a n w v : Int} {σ τ : gM} (h : RR B σ τ) (ha : 0 ≤ a ∧ a < 40) (hf : τ 21 a = 0) (hn : 1 ≤ n) (hn2 : n ≤ 24) (hv : v = 0 ∨ v = 1) (hw : Fit τ (rnd n) w) (hB : B + 10 ≤ 1073741824) :
    ∃ s, F_He_place σ a w n v = some (s, 0) ∧ RR (B + 1) s (gU (gU (gU (gU (gU (gU τ 21 a 1) 22 a w) 23 a n) 24 a 0) 25 a v) 26 a 0) := by
  obtain ⟨hO, hD, ⟨hr1, hr2⟩, h11⟩ := h.2
  have hr := rnd_ok hn hn2
  obtain ⟨t, et⟩ : ∃ t, t = gU (gU (gU (gU (gU σ 29 a w) 30 a n) 31 a 0) 32 a v) 33 a 0 := ⟨_, rfl⟩
  obtain ⟨t', et'⟩ : ∃ t', t' = gU (gU (gU (gU (gU (gU τ 21 a 1) 22 a w) 23 a n) 24 a 0) 25 a v) 26 a 0 := ⟨_, rfl⟩
  have kt : ∀ k, k ≠ 29 → k ≠ 30 → k ≠ 31 → k ≠ 32 → k ≠ 33 → t k = σ k := fun k a b c d e => by rw [et, gU_k e, gU_k d, gU_k c, gU_k b, gU_k a]
  have kt' : ∀ k, k ≠ 21 → k ≠ 22 → k ≠ 23 → k ≠ 24 → k ≠ 25 → k ≠ 26 → t' k = τ k := fun k a b c d e f => by rw [et', gU_k f, gU_k e, gU_k d, gU_k c, gU_k b, gU_k a]
  have t29 : ∀ i, t 29 i = if i = a then w else σ 29 i := fun i => by rw [et, gU_k (by decide), gU_k (by decide), gU_k (by decide), gU_k (by decide), gU_at]
  have t30 : ∀ i, t 30 i = if i = a then n else σ 30 i := fun i => by rw [et, gU_k (by decide), gU_k (by decide), gU_k (by decide), gU_at, gU_k (by decide)]
  have t31 : ∀ i, t 31 i = if i = a then 0 else σ 31 i := fun i => by rw [et, gU_k (by decide), gU_k (by decide), gU_at, gU_k (by decide), gU_k (by decide)]
  have t32 : ∀ i, t 32 i = if i = a then v else σ 32 i := fun i => by rw [et, gU_k (by decide), gU_at, gU_k (by decide), gU_k (by decide), gU_k (by decide)]
  have t33 : ∀ i, t 33 i = if i = a then 0 else σ 33 i := fun i => by rw [et, gU_at, gU_k (by decide), gU_k (by decide), gU_k (by decide), gU_k (by decide)]
  have u21 : ∀ i, t' 21 i = if i = a then 1 else τ 21 i := fun i => by rw [et', gU_k (by decide), gU_k (by decide), gU_k (by decide), gU_k (by decide), gU_k (by decide), gU_at]
  have u22 : ∀ i, t' 22 i = if i = a then w else τ 22 i := fun i => by rw [et', gU_k (by decide), gU_k (by decide), gU_k (by decide), gU_k (by decide), gU_at, gU_k (by decide)]
  have u23 : ∀ i, t' 23 i = if i = a then n else τ 23 i := fun i => by rw [et', gU_k (by decide), gU_k (by decide), gU_k (by decide), gU_at, gU_k (by decide), gU_k (by decide)]
  have u24 : ∀ i, t' 24 i = if i = a then 0 else τ 24 i := fun i => by rw [et', gU_k (by decide), gU_k (by decide), gU_at, gU_k (by decide), gU_k (by decide), gU_k (by decide)]
  have u25 : ∀ i, t' 25 i = if i = a then v else τ 25 i := fun i => by rw [et', gU_k (by decide), gU_at, gU_k (by decide), gU_k (by decide), gU_k (by decide), gU_k (by decide)]
  have u26 : ∀ i, t' 26 i = if i = a then 0 else τ 26 i := fun i => by rw [et', gU_at, gU_k (by decide), gU_k (by decide), gU_k (by decide), gU_k (by decide), gU_k (by decide)]
  have fx : FrX [29, 30, 31, 32, 33] [21, 22, 23, 24, 25, 26] [] σ τ t t' := by
    refine ⟨fun k a => ?_, fun k a => ?_, fun j a => by rw [kt' 0 (by decide) (by decide) (by decide) (by decide) (by decide) (by decide)], by rw [kt 4 (by decide) (by decide) (by decide) (by decide) (by decide)]⟩
    · simp only [List.mem_cons, List.not_mem_nil, or_false, not_or] at a
      exact kt k a.1 a.2.1 a.2.2.1 a.2.2.2.1 a.2.2.2.2
    · simp only [List.mem_cons, List.not_mem_nil, or_false, not_or] at a
      exact kt' k a.1 a.2.1 a.2.2.1 a.2.2.2.1 a.2.2.2.2.1 a.2.2.2.2.2
  have M : MM B t t' := h.1.fx fx (by decide) (by decide) (by decide)
  have e4 : t 4 = σ 4 := fx.1 4 (by decide)
  have g := gcnt_le (f := τ 21) 40 (fun b b1 b2 => by rcases (hO b b1 b2).2 with z | z <;> omega)
  have T0 : 0 ≤ σ 4 14 := (h.1.1.ticks (by omega)).2.1
  have key : RR (B + 1) (gU t 4 11 (σ 4 11 + 1)) t' := by
    refine ⟨M.t11.mono (by omega), HH.mono (B := B) ⟨fun o o1 o2 => ?_, fun p p' p1 p2 p3 p4 q1 q2 hne => ?_, ⟨fun i i1 i2 => ?_, fun i i1 i2 => ?_⟩, ?_⟩ (by omega)⟩
    · have := hO o o1 o2
      unfold HO at this ⊢
      rw [gU_k (show (29 : Nat) ≠ 4 by decide), gU_k (show (30 : Nat) ≠ 4 by decide), gU_k (show (31 : Nat) ≠ 4 by decide), gU_k (show (32 : Nat) ≠ 4 by decide), gU_k (show (33 : Nat) ≠ 4 by decide), gU_i (show (14 : Int) ≠ 11 by decide), e4, t29, t30, t31, t32, t33, u21, u22, u23, u24, u25, u26]
      by_cases d : o = a
      · simp only [if_pos d]
        exact ⟨by omega, Or.inr ⟨trivial, ⟨trivial, trivial, trivial, trivial, trivial⟩, ⟨hw.1.1, hw.1.2.1, hn, hn2, hw.1.2.2⟩, hv, Int.le_refl _, T0⟩⟩
      · simp only [if_neg d]
        exact this
    · rw [u21] at q1 q2
      rw [u22, u22, u23, u23]
      by_cases d : p = a
      · have d' : p' ≠ a := fun z => hne (d.trans z.symm)
        rw [if_neg d'] at q2 ⊢
        rw [if_neg d', if_pos d, if_pos d]
        exact (hw.2 p' p3 p4 q2).symm
      · rw [if_neg d] at q1 ⊢
        rw [if_neg d]
        by_cases d' : p' = a
        · rw [if_pos d', if_pos d']; exact hw.2 p p1 p2 q1
        · rw [if_neg d'] at q2 ⊢
          rw [if_neg d']
          exact hD p p' p1 p2 p3 p4 q1 q2 hne
    · rw [gU_k (by decide), kt 34 (by decide) (by decide) (by decide) (by decide) (by decide), kt' 27 (by decide) (by decide) (by decide) (by decide) (by decide) (by decide), u21]
      have := hr1 i i1 i2
      refine ⟨this.1, this.2.imp id fun z => ⟨z.1, ?_⟩⟩
      split
      · rfl
      · exact z.2
    · rw [gU_k (by decide), kt 35 (by decide) (by decide) (by decide) (by decide) (by decide), kt' 28 (by decide) (by decide) (by decide) (by decide) (by decide) (by decide), u21]
      have := hr2 i i1 i2
      refine ⟨this.1, this.2.imp id fun z => ⟨z.1, ?_⟩⟩
      split
      · rfl
      · exact z.2
    · rw [gU_e, gcnt_upd (f := τ 21) (g := t' 21) (c := a) 40 ha.1 ha.2 (fun b hb => by rw [u21, if_neg hb]), u21, if_pos rfl, hf]
      omega
  have l11 : σ 4 11 + 1 ≤ 1073741824 := by omega
  unfold F_He_place
  rw [gw_p ha, gw_p ha, gw_p ha, gwb_p ⟨ha, by omega⟩, gw_p ha, ← et, ← et']
  have ad : F_Le_add t 11 1 = some (gU t 4 11 (σ 4 11 + 1), 0) := by
    unfold F_Le_add
    rw [gi_p (by decide), e4, ga_p (by omega), gw_p (by decide)]
  rw [gk_e ad]
  exact ⟨_, rfl, key⟩
theorem make_P {B v1 v2 v3 : Int} {σ τ : gM} (h : RR B σ τ) (h3 : v3 = 0 ∨ v3 = 1) (hB : B + 2000000 ≤ 1073741824) : Pa B (F_Co_make σ v1 v2 v3) (F_Mo_make τ v1 v2 v3) := by
  unfold F_Co_make F_Mo_make j_Co_make_19 j_Mo_make_19
  by_cases c : 0 ≤ v1 ∧ v1 ≤ 1
  · rw [gk_e (within_y c), gk_e (in_y c), if_neg (show ¬ (1 : Int) = 0 by decide), if_neg (show ¬ (1 : Int) = 0 by decide)]
    by_cases d1 : v2 < 1
    · rw [if_pos d1, gk_e (in_n (by omega)), if_pos rfl]; exact pa_ret h
    by_cases d2 : 24 < v2
    · rw [if_neg d1, if_pos d2, gk_e (in_n (by omega)), if_pos rfl]; exact pa_ret h
    rw [if_neg d1, if_neg d2, gk_e (in_y (by omega)), if_neg (show ¬ (1 : Int) = 0 by decide)]
    -- the making itself
    have put : ∀ s s', RR (B + 1300000) s s' → Pa B (j_Co_make_55 s v1 v2 v3) (j_Mo_make_46 s' v1 v2 v3) := by
      intro s s' R
      obtain ⟨r, t', e1, e2, e3, e4⟩ := room_R R (show 1 ≤ v2 by omega) (by omega)
      obtain ⟨a, g1, g2, g3⟩ := number_R R.2
      have R' := R.z e3
      unfold j_Co_make_55 j_Mo_make_46 j_Co_make_88 j_Mo_make_73
      rw [gk_e e1, gk_e g1, gk_e g2, gk_e e2]
      have non : Pa B (some (s, -3)) (some (t', -3)) := sim_ret ⟨rfl, R'.mono (by omega)⟩
      by_cases k1 : r = -4
      · rw [if_pos k1, if_pos k1]
        split
        · exact non
        · exact non
      by_cases k2 : a = -4
      · rw [if_neg k1, if_pos k2, if_pos k2]; exact non
      have ha := g3.resolve_left k2
      have hw := e3.fit' (e4.resolve_left k1)
      have hf : t' 21 a = 0 := by rw [e3.1 21 (by decide)]; exact ha.2
      obtain ⟨u, p1, p2⟩ := place_R (v := v3) R' ha.1 hf (show 1 ≤ v2 by omega) (by omega) h3 hw (by omega)
      have hr := rnd_ok (show 1 ≤ v2 by omega) (show v2 ≤ 24 by omega)
      have hw1 := hw.1
      rw [if_neg k1, if_neg k2, if_neg k2, if_neg k1, gk_e p1, gwb_p ⟨ha.1, by decide⟩, gw_p ha.1, gw_p ha.1, gw_p ha.1, gwb_p ⟨ha.1, by omega⟩, gw_p ha.1]
      generalize gU (gU (gU (gU (gU (gU t' 21 a 1) 22 a r) 23 a v2) 24 a 0) 25 a v3) 26 a 0 = u' at p2 ⊢
      refine sim_gl1 (lo := 0) (hi := v2) (fun f q q' => RR (B + 1300001 + 400 * f) q q') ?_ ?_ 200 200 0 u u' (by omega) (by omega) (by omega) (by omega) (p2.mono (by omega))
      · rintro rec rec' f q q' f1 f2 Q1 ih
        unfold l_Co_make_107 l_Mo_make_128
        obtain ⟨x, y, s, z, s', z', m1, m2, m3, m4, m5, m6⟩ := sv_R (p := v1) (a := r + f) (v := 0) Q1.1 c.1 (by omega) (by omega) (by omega) (by decide) (by decide) (by omega)
        rw [if_pos f2, if_pos f2, ga_p (x := r + f) (by omega), gk_e m1, gk_e m2, ga_p (x := r + f) (by omega), gk_e m3, ga_p (by omega), ga_p (by omega)]
        exact ih s s' ⟨m4.mono (by omega), (Q1.2.fx m5 (by decide) (by decide) m6).mono (by omega)⟩
      · rintro rec rec' q q' Q1
        unfold l_Co_make_107 l_Mo_make_128
        rw [if_neg (show ¬ v2 < v2 by omega), if_neg (show ¬ v2 < v2 by omega)]
        exact sim_ret ⟨rfl, Q1.mono (by omega)⟩
    have col : ∀ s s', RR B s s' → Pa B (j_Co_make_46 s v1 v2 v3) (j_Mo_make_40 s' v1 v2 v3) := by
      intro s s' R
      unfold j_Co_make_46 j_Mo_make_40
      exact sim_bind (collect_R R (Int.le_refl 0) (by omega)) fun q r q' r' ⟨_, R2⟩ => put q q' R2
    obtain ⟨r, t', e1, e2, e3, e4⟩ := room_R h (show 1 ≤ v2 by omega) (by omega)
    have R' := h.z e3
    rw [gk_e e1, gk_e e2]
    by_cases k1 : r = -4
    · rw [if_pos k1, if_pos k1]; exact col σ t' R'
    · obtain ⟨a, g1, g2, g3⟩ := number_R R'.2
      rw [if_neg k1, if_neg k1, gk_e g1, gk_e g2]
      by_cases k2 : a = -4
      · rw [if_pos k2, if_pos k2]; exact col σ t' R'
      · rw [if_neg k2, if_neg k2]; exact put σ t' (R'.mono (by omega))
  · rw [gk_e (within_n (by omega)), gk_e (in_n (by omega)), if_pos rfl, if_pos rfl]
    exact pa_ret h
