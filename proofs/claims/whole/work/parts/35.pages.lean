/-! pages: reading cells, leaving -/
def FrX (LC LM : List Nat) (L0 : List Int) (σ τ s s' : gM) : Prop := (∀ k, k ∉ LC → s k = σ k) ∧ (∀ k, k ∉ LM → s' k = τ k) ∧ (∀ j, j ∉ L0 → s' 0 j = τ 0 j) ∧ s 4 11 = σ 4 11
theorem FrX.refl (LC LM : List Nat) (L0 : List Int) (σ τ : gM) : FrX LC LM L0 σ τ σ τ := ⟨fun _ _ => rfl, fun _ _ => rfl, fun _ _ => rfl, rfl⟩
theorem FrX.trans {LC LM : List Nat} {L0 : List Int} {σ τ s s' t t' : gM} (h : FrX LC LM L0 σ τ s s') (h2 : FrX LC LM L0 s s' t t') : FrX LC LM L0 σ τ t t' :=
  ⟨fun k a => (h2.1 k a).trans (h.1 k a), fun k a => (h2.2.1 k a).trans (h.2.1 k a), fun k a => (h2.2.2.1 k a).trans (h.2.2.1 k a), h2.2.2.2.trans h.2.2.2⟩
theorem FrX.mono {LC LM LC' LM' : List Nat} {L0 L0' : List Int} {σ τ s s' : gM} (h : FrX LC LM L0 σ τ s s') (a : ∀ k, k ∈ LC → k ∈ LC') (b : ∀ k, k ∈ LM → k ∈ LM') (c : ∀ k, k ∈ L0 → k ∈ L0') : FrX LC' LM' L0' σ τ s s' :=
  ⟨fun k x => h.1 k (fun y => x (a k y)), fun k x => h.2.1 k (fun y => x (b k y)), fun k x => h.2.2.1 k (fun y => x (c k y)), h.2.2.2⟩
theorem FrM.x {σ τ s s' : gM} (h : FrM σ τ s s') : FrX [3, 4, 6, 7, 8, 9, 10, 11, 12, 13, 14, 15, 16] [0, 1, 2, 3, 4, 5, 6, 7, 8, 9, 10, 11, 12, 29, 30] [4, 18] σ τ s s' := by
  obtain ⟨h1, h2, h3, h4, h5⟩ := h
  refine ⟨fun k a => ?_, fun k a => ?_, fun j a => ?_, h2⟩
  · simp only [List.mem_cons, List.not_mem_nil, or_false, not_or] at a
    obtain ⟨a1, a2, a3, a4, a5, a6, a7, a8, a9, b1, b2, b3, b4⟩ := a
    exact h1 k a1 a2 a3 a4 a5 a6 a7 a8 a9 b1 b2 b3 b4
  · simp only [List.mem_cons, List.not_mem_nil, or_false, not_or] at a
    exact h4 k (by omega) (by omega) (by omega) (by omega) (by omega) (by omega) (by omega)
  · simp only [List.mem_cons, List.not_mem_nil, or_false, not_or] at a
    exact h5 j a.1 a.2
theorem Fr0.x {σ τ s s' : gM} (h : Fr0 σ τ s s') : FrX [3, 4, 6, 7, 8] [0, 1, 2, 3, 29, 30] [4] σ τ s s' := by
  obtain ⟨h1, h2, h3, h4⟩ := h
  refine ⟨fun k a => ?_, fun k a => ?_, fun j a => ?_, h2⟩
  · simp only [List.mem_cons, List.not_mem_nil, or_false, not_or] at a
    obtain ⟨a1, a2, a3, a4, a5⟩ := a
    exact h1 k a1 a2 a3 a4 a5
  · simp only [List.mem_cons, List.not_mem_nil, or_false, not_or] at a
    obtain ⟨a1, a2, a3, a4, a5, a6⟩ := a
    exact h3 k a1 a2 a3 a4 a5 a6
  · simp only [List.mem_cons, List.not_mem_nil, or_false, not_or] at a
    exact h4 j a
def Rrd (B : Int) (σ τ : gM) : Prop := (∀ a, 0 ≤ a → a < 512 → σ 6 a = τ 1 a ∧ 0 ≤ τ 1 a ∧ τ 1 a < 8192) ∧ σ 4 8 = τ 0 4 ∧ 0 ≤ τ 0 4 ∧ τ 0 4 ≤ B
def FrR (σ τ s s' : gM) : Prop := (∀ k, k ≠ 4 → k ≠ 6 → s k = σ k) ∧ (∀ j, j ≠ 8 → s 4 j = σ 4 j) ∧ (∀ k, k ≠ 0 → k ≠ 1 → s' k = τ k) ∧ (∀ j, j ≠ 4 → s' 0 j = τ 0 j)
theorem FrR.refl (σ τ : gM) : FrR σ τ σ τ := ⟨fun _ _ _ => rfl, fun _ _ => rfl, fun _ _ _ => rfl, fun _ _ => rfl⟩
theorem R0.rrd {B : Int} {σ τ : gM} (h : R0 B σ τ) : Rrd B σ τ := ⟨h.1.1, h.2.2.2.2⟩
theorem R0.rd {B B' : Int} {σ τ s s' : gM} (h : R0 B σ τ) (q : Rrd B' s s') (hB : B ≤ B') (k1 : s 1 = σ 1) (k2 : s 2 = σ 2) (k3 : s 3 = σ 3) (k5 : s 5 = σ 5) (k7 : s 7 = σ 7) (k8 : s 8 = σ 8) (k4 : ∀ j, j ≠ 8 → s 4 j = σ 4 j) (m2 : s' 2 = τ 2) (m3 : s' 3 = τ 3) (m29 : s' 29 = τ 29) (m30 : s' 30 = τ 30) (m0 : ∀ j, j ≠ 4 → s' 0 j = τ 0 j) : R0 B' s s' := by
  obtain ⟨⟨a1, a2, a3, a4⟩, a5, ⟨b1, b2, b3, b4, b5⟩, c1, c2⟩ := h.mono hB
  refine ⟨⟨q.1, by rw [k7, m2]; exact a2, by rw [k8, m3]; exact a3, by rw [k5, m0 1 (by decide)]; exact a4⟩, ?_, ⟨?_, ?_, ?_, ?_, ?_⟩, fun c q1 q2 q3 q4 q5 => ?_, q.2⟩
  · unfold Rru
    rw [k1, m0 7 (by decide), m0 8 (by decide), m0 20 (by decide), m0 31 (by decide)]; exact a5
  · rw [k2, m0 40 (by decide)]; exact b1
  · rw [m0 40 (by decide)]; exact b2
  · rw [k3, m29]; exact b3
  · rw [k4 14 (by decide), m29]; exact b4
  · rw [m29]; exact b5
  · rw [k4 c q3, m30]; exact c1 c q1 q2 q3 q4 q5
theorem read_X {B a : Int} {σ τ : gM} (h : Rrd B σ τ) (ha : 0 ≤ a) (ha2 : a < 512) (hB : B + 1 ≤ 1073741824) :
    Sim (F_Ce_read σ a) (F_Mo_readCell τ a) (fun s r s' r' => r' = r ∧ Rrd (B + 1) s s' ∧ FrR σ τ s s' ∧ (r = -5 ∨ (0 ≤ r ∧ r ≤ 255))) := by
  have hb := h.1 a ha ha2
  have hm := h.2
  have e6 : σ 6 a = τ 1 a := hb.1
  have h1 : Rrd (B + 1) σ τ := ⟨h.1, by omega, by omega, by omega⟩
  unfold F_Ce_read F_Mo_readCell
  rw [gi_p ⟨ha, ha2⟩, gi_p ⟨ha, ha2⟩, e6, gk_e (righted_i hb.2.1 hb.2.2), gk_e (mend_i hb.2.1 hb.2.2)]
  rcases rC_ok hb.2.1 hb.2.2 with hr | hr
  · rw [if_pos hr, if_pos (show rC (τ 1 a) < 0 by omega)]
    exact sim_ret ⟨rfl, h1, FrR.refl σ τ, Or.inl rfl⟩
  · rw [if_neg (show ¬ rC (τ 1 a) = -5 by omega), if_neg (show ¬ rC (τ 1 a) < 0 by omega), gi_p ⟨ha, ha2⟩, gi_p ⟨ha, ha2⟩]
    have hv := vC_ok hr.1 hr.2
    unfold j_Ce_read_46 j_Mo_readCell_37_0
    by_cases heq : rC (τ 1 a) = τ 1 a
    · rw [e6, if_pos heq, if_pos heq, gk_e (valueOf_i hr.1 hr.2), ga_p (by omega), gp_p, gw_p ⟨ha, ha2⟩, gk_e (value_i hr.1 hr.2)]
      refine sim_ret ⟨rfl, ⟨fun x x1 x2 => ?_, ?_⟩, ⟨fun _ _ _ => rfl, fun _ _ => rfl, fun k k0 k1 => by rw [gU_k k1, gU_k k0], fun j hj => by rw [gU_k (by decide), gU_i hj]⟩, Or.inr hv⟩
      · rw [gU_at, gU_k (show (1 : Nat) ≠ 0 by decide)]
        split
        · rename_i z; rw [z]; exact ⟨by rw [e6, heq], hr.1, hr.2⟩
        · exact h.1 x x1 x2
      · rw [gU_k (show (0 : Nat) ≠ 1 by decide), gU_e]; omega
    · rw [e6, if_neg heq, if_neg heq, gw_p ⟨ha, ha2⟩]
      have e48 : gU σ 6 a (rC (τ 1 a)) 4 8 = σ 4 8 := by rw [gU_k (show (4 : Nat) ≠ 6 by decide)]
      have m1 := hm.1
      rw [gk_e (add_e (B := B) (by decide) (by decide) (by rw [e48]; omega) (by decide) hB), e48, gk_e (valueOf_i hr.1 hr.2), ga_p (by omega), gp_p, gw_p ⟨ha, ha2⟩, gk_e (value_i hr.1 hr.2)]
      refine sim_ret ⟨rfl, ⟨fun x x1 x2 => ?_, ?_⟩, ⟨fun k k4 k6 => by rw [gU_k k4, gU_k k6], fun j hj => by rw [gU_i hj, gU_k (by decide)], fun k k0 k1 => by rw [gU_k k1, gU_k k0], fun j hj => by rw [gU_k (by decide), gU_i hj]⟩, Or.inr hv⟩
      · rw [gU_at, gU_k (show (1 : Nat) ≠ 0 by decide), gU_k (show (6 : Nat) ≠ 4 by decide), gU_at]
        split
        · exact ⟨rfl, hr.1, hr.2⟩
        · exact h.1 x x1 x2
      · rw [gU_k (show (0 : Nat) ≠ 1 by decide), gU_e, gU_e]; omega
/-- the disc's bytes -/
def Rdk (σ τ : gM) : Prop := ∀ x, 0 ≤ x → x < 1024 → σ 27 x = τ 19 x ∧ (σ 27 x = -5 ∨ (0 ≤ σ 27 x ∧ σ 27 x ≤ 255))
/-- pages in frames; the touch of frame e counts not; all before the clock's last d -/
def Rpa (B e d : Int) (σ τ : gM) : Prop :=
  ((σ 17 0 = τ 0 19 ∧ 1 ≤ τ 0 19 ∧ τ 0 19 ≤ 16) ∧ (σ 17 4 = τ 0 21 ∧ 0 ≤ τ 0 21 ∧ τ 0 21 < τ 0 19) ∧ (0 ≤ σ 17 5 ∧ σ 17 5 ≤ B)) ∧
  (∀ q, 0 ≤ q → q < 32 → σ 18 q = τ 17 q ∧ (τ 17 q = -4 ∨ ((0 ≤ τ 17 q ∧ τ 17 q < τ 0 19) ∧ τ 13 (τ 17 q) = q))) ∧
  (∀ f, 0 ≤ f → f < 16 → σ 23 f = τ 13 f ∧ (τ 13 f = -4 ∨ ((0 ≤ τ 13 f ∧ τ 13 f < 32) ∧ τ 17 (τ 13 f) = f ∧ f < τ 0 19)) ∧ σ 26 f = τ 14 f ∧ (τ 14 f = 0 ∨ τ 14 f = 1)) ∧
  (∀ f, 0 ≤ f → f < 16 → τ 13 f ≠ -4 → (σ 24 f ≤ σ 17 5 ∧ τ 15 f ≤ τ 0 18) ∧ (f ≠ e → (σ 24 f ≤ σ 17 5 - d ∧ τ 15 f ≤ τ 0 18 - d) ∧ σ 25 f ≤ σ 17 5 - d ∧ τ 16 f ≤ τ 0 18 - d)) ∧
  (∀ f g, 0 ≤ f → f < 16 → 0 ≤ g → g < 16 → τ 13 f ≠ -4 → τ 13 g ≠ -4 → (σ 24 f < σ 24 g ↔ τ 15 f < τ 15 g) ∧ (f ≠ e → g ≠ e → (σ 25 f < σ 25 g ↔ τ 16 f < τ 16 g))) ∧
  Rdk σ τ
theorem Rpa.mono {B B' e d : Int} {σ τ : gM} (h : Rpa B e d σ τ) (hb : B ≤ B') : Rpa B' e d σ τ :=
  ⟨⟨h.1.1, h.1.2.1, h.1.2.2.1, Int.le_trans h.1.2.2.2 hb⟩, h.2⟩
theorem Rpa.sm {B e d : Int} {σ τ s s' : gM} (h : Rpa B e d σ τ) (k17 : s 17 = σ 17) (k18 : s 18 = σ 18) (k23 : s 23 = σ 23) (k24 : s 24 = σ 24) (k25 : s 25 = σ 25) (k26 : s 26 = σ 26) (k27 : s 27 = σ 27) (m13 : s' 13 = τ 13) (m14 : s' 14 = τ 14) (m15 : s' 15 = τ 15) (m16 : s' 16 = τ 16) (m17 : s' 17 = τ 17) (m19 : s' 19 = τ 19) (z18 : τ 0 18 ≤ s' 0 18) (z19 : s' 0 19 = τ 0 19) (z21 : s' 0 21 = τ 0 21) : Rpa B e d s s' := by
  obtain ⟨a, b, c, f, g, k⟩ := h
  unfold Rpa Rdk
  rw [k17, k18, k23, k24, k25, k26, k27, m13, m14, m15, m16, m17, m19, z19, z21]
  refine ⟨a, b, c, fun x x1 x2 x3 => ?_, g, k⟩
  have := f x x1 x2 x3
  exact ⟨⟨this.1.1, by omega⟩, fun z => by have := this.2 z; omega⟩
theorem FrX.smA {LC LM : List Nat} {L0 : List Int} {σ τ s s' : gM} (h : FrX LC LM L0 σ τ s s') (a : ∀ k, k ∈ [9, 10, 11, 12, 13, 14, 15, 16] → k ∉ LC) (b : ∀ k, k ∈ [4, 5, 6, 7, 8, 9, 10, 11, 12] → k ∉ LM) (c : ∀ j : Int, j ∈ [(5 : Int), 6, 18] → j ∉ L0) : SmA σ τ s s' := by
  refine ⟨⟨?_, ?_, ?_, ?_, ?_, ?_, ?_, ?_⟩, ⟨?_, ?_, ?_, ?_, ?_, ?_, ?_, ?_, ?_⟩, h.2.2.1 5 (c 5 (by decide)), h.2.2.1 6 (c 6 (by decide)), h.2.2.1 18 (c 18 (by decide))⟩
  all_goals first
    | exact h.1 _ (a _ (by decide))
    | exact h.2.1 _ (b _ (by decide))
/-- a page goes: bytes to the disc, the two maps -/
theorem gone_R {B f q : Int} {σ τ : gM} (h0 : R0 B σ τ) (hL : Ln B σ τ) (hP : Rpa B (-1) 1 σ τ ∨ Rpa B (-1) 0 σ τ) (hf : 0 ≤ f) (hf2 : f < 16) (hq : q = τ 13 f) (hne : q ≠ -4) (hB : B + 40 ≤ 1073741824) :
    Sim (j_Me_leave_34 σ f q) (j_Mo_goAway_32 τ f q) (fun s r s' r' => R0 (B + 40) s s' ∧ Ln (B + 40) s s' ∧ (∀ d, Rpa B (-1) d σ τ → Rpa (B + 40) (-1) d s s') ∧ FrX [4, 6, 18, 23, 27] [0, 1, 13, 17, 19, 30] [4] σ τ s s' ∧ s' 13 = gU τ 13 f (-4) 13) := by
  have hP' : ∃ d, Rpa B (-1) d σ τ := by rcases hP with z | z; exact ⟨_, z⟩; exact ⟨_, z⟩
  obtain ⟨d0, p1, p2, p3, p4, p5, p6⟩ := hP'
  have hf3 := p3 f hf hf2
  have hq2 : (0 ≤ q ∧ q < 32) ∧ τ 17 q = f ∧ f < τ 0 19 := by
    rw [hq] at hne ⊢
    rcases hf3.2.1 with z | z
    · exact absurd z hne
    · exact z
  unfold j_Me_leave_34 j_Mo_goAway_32
  have hco := h0.2.2.2.1 7 (by decide) (by decide) (by decide) (by decide) (by decide)
  obtain ⟨c1, c2⟩ := count_R (c := 7) (n := 1) h0 (by decide) (by decide) (by decide) (by decide) (by decide) (by decide)
  rw [gk_e (add_e (B := B) (c := 7) (n := 1) (by decide) (by decide) (by omega) (by decide) (by omega))]
  refine sim_gl1 (lo := 0) (hi := 32) (fun j s s' => Rrd (B + 1 + j) s s' ∧ Rdk s s' ∧ ((∀ k, k ≠ 4 → k ≠ 6 → k ≠ 27 → s k = σ k) ∧ (∀ j, j ≠ 8 → s 4 j = gU σ 4 7 (σ 4 7 + 1) 4 j) ∧ (∀ k, k ≠ 0 → k ≠ 1 → k ≠ 19 → s' k = τ k) ∧ (∀ j, j ≠ 4 → s' 0 j = τ 0 j))) ?_ ?_ 200 200 0 _ τ (by omega) (by omega) (by omega) (by omega) ⟨⟨h0.1.1, ?_, ?_⟩, p6, fun k k4 _ _ => by rw [gU_k k4], fun _ _ => rfl, fun _ _ _ _ => rfl, fun _ _ => rfl⟩
  · rintro rec rec' j s s' j1 j2 ⟨i1, i2, i3, i4, i5, i6⟩ ih
    unfold l_Me_leave_47 l_Mo_goAway_35
    rw [if_pos j2, if_pos j2, ga_p (by omega), ga_p (by omega), ga_p (by omega), ga_p (by omega), ga_p (by omega), ga_p (by omega), ga_p (by omega), ga_p (by omega), show q * 32 + j = 32 * q + j by omega, show f * 32 + j = 32 * f + j by omega]
    refine sim_bind (read_X (a := 32 * f + j) i1 (by omega) (by omega) (by omega)) fun t r t' r' ⟨e, t1, t2, t3⟩ => ?_
    subst e
    rw [gw_p (by omega), gw_p (by omega), ga_p (by omega), ga_p (by omega)]
    have e27 : t 27 = s 27 := t2.1 27 (by decide) (by decide)
    have e19 : t' 19 = s' 19 := t2.2.2.1 19 (by decide) (by decide)
    refine ih _ _ ⟨⟨fun a a1 a2 => ?_, ?_⟩, fun x x1 x2 => ?_, fun k k4 k6 k27 => ?_, fun x hx => ?_, fun k k0 k1 k19 => ?_, fun x hx => ?_⟩
    · rw [gU_k (by decide), gU_k (by decide)]; exact t1.1 a a1 a2
    · rw [gU_k (by decide), gU_k (by decide)]; have := t1.2; omega
    · rw [gU_at, gU_at, e27, e19]
      split
      · exact ⟨rfl, t3⟩
      · exact i2 x x1 x2
    · rw [gU_k k27, t2.1 k k4 k6]; exact i3 k k4 k6 k27
    · rw [gU_k (by decide), t2.2.1 x hx]; exact i4 x hx
    · rw [gU_k k19, t2.2.2.1 k k0 k1]; exact i5 k k0 k1 k19
    · rw [gU_k (by decide), t2.2.2.2 x hx]; exact i6 x hx
  · rintro rec rec' s s' ⟨i1, i2, i3, i4, i5, i6⟩
    unfold l_Me_leave_47 l_Mo_goAway_35
    rw [if_neg (by decide), if_neg (by decide)]
    dsimp only
    have e18 : s 18 = σ 18 := i3 18 (by decide) (by decide) (by decide)
    have e23 : s 23 = σ 23 := i3 23 (by decide) (by decide) (by decide)
    have e13 : s' 13 = τ 13 := i5 13 (by decide) (by decide) (by decide)
    have e17 : s' 17 = τ 17 := i5 17 (by decide) (by decide) (by decide)
    have e30 : gU (gU s' 13 f (-4)) 17 q (-4) 30 = τ 30 := by rw [gU_k (by decide), gU_k (by decide), i5 30 (by decide) (by decide) (by decide)]
    rw [gw_p hq2.1, gw_p ⟨hf, hf2⟩, gw_p ⟨hf, hf2⟩, gw_p hq2.1, gi_p (by decide), e30, ga_p (by omega), gw_p (by decide)]
    have w4 : gU (gU s 18 q (-4)) 23 f (-4) 4 = s 4 := by rw [gU_k (by decide), gU_k (by decide)]
    have w6 : gU (gU s 18 q (-4)) 23 f (-4) 6 = s 6 := by rw [gU_k (by decide), gU_k (by decide)]
    have w18 : gU (gU s 18 q (-4)) 23 f (-4) 18 = gU σ 18 q (-4) 18 := by rw [gU_k (by decide)]; funext x; rw [gU_at, gU_at, e18]
    have w23 : gU (gU s 18 q (-4)) 23 f (-4) 23 = gU σ 23 f (-4) 23 := by funext x; rw [gU_at, gU_at, gU_k (by decide), e23]
    have w27 : gU (gU s 18 q (-4)) 23 f (-4) 27 = s 27 := by rw [gU_k (by decide), gU_k (by decide)]
    have wk : ∀ k, k ≠ 4 → k ≠ 6 → k ≠ 18 → k ≠ 23 → k ≠ 27 → gU (gU s 18 q (-4)) 23 f (-4) k = σ k := fun k a b c d e => by rw [gU_k d, gU_k c]; exact i3 k a b e
    have v0 : gU (gU (gU s' 13 f (-4)) 17 q (-4)) 30 7 (τ 30 7 + 1) 0 = s' 0 := by rw [gU_k (by decide), gU_k (by decide), gU_k (by decide)]
    have v1 : gU (gU (gU s' 13 f (-4)) 17 q (-4)) 30 7 (τ 30 7 + 1) 1 = s' 1 := by rw [gU_k (by decide), gU_k (by decide), gU_k (by decide)]
    have v13 : gU (gU (gU s' 13 f (-4)) 17 q (-4)) 30 7 (τ 30 7 + 1) 13 = gU τ 13 f (-4) 13 := by rw [gU_k (by decide), gU_k (by decide)]; funext x; rw [gU_at, gU_at, e13]
    have v17 : gU (gU (gU s' 13 f (-4)) 17 q (-4)) 30 7 (τ 30 7 + 1) 17 = gU τ 17 q (-4) 17 := by rw [gU_k (by decide)]; funext x; rw [gU_at, gU_at, gU_k (by decide), e17]
    have v19 : gU (gU (gU s' 13 f (-4)) 17 q (-4)) 30 7 (τ 30 7 + 1) 19 = s' 19 := by rw [gU_k (by decide), gU_k (by decide), gU_k (by decide)]
    have v30 : gU (gU (gU s' 13 f (-4)) 17 q (-4)) 30 7 (τ 30 7 + 1) 30 = gU τ 30 7 (τ 30 7 + 1) 30 := by funext x; rw [gU_at, gU_at, e30]
    have vk : ∀ k, k ≠ 0 → k ≠ 1 → k ≠ 13 → k ≠ 17 → k ≠ 19 → k ≠ 30 → gU (gU (gU s' 13 f (-4)) 17 q (-4)) 30 7 (τ 30 7 + 1) k = τ k := fun k a b c d e g => by rw [gU_k g, gU_k d, gU_k c]; exact i5 k a b e
    generalize gU (gU (gU s' 13 f (-4)) 17 q (-4)) 30 7 (τ 30 7 + 1) = w' at *
    generalize gU (gU s 18 q (-4)) 23 f (-4) = w at *
    have fx : FrX [4, 6, 18, 23, 27] [0, 1, 13, 17, 19, 30] [4] σ τ w w' := by
      refine ⟨fun k a => ?_, fun k a => ?_, fun j a => ?_, ?_⟩
      · simp only [List.mem_cons, List.not_mem_nil, or_false, not_or] at a
        exact wk k a.1 a.2.1 a.2.2.1 a.2.2.2.1 a.2.2.2.2
      · simp only [List.mem_cons, List.not_mem_nil, or_false, not_or] at a
        exact vk k a.1 a.2.1 a.2.2.1 a.2.2.2.1 a.2.2.2.2.1 a.2.2.2.2.2
      · simp only [List.mem_cons, List.not_mem_nil, or_false, not_or] at a
        rw [v0]; exact i6 j a
      · rw [w4, i4 11 (by decide), gU_i (by decide)]
    have sm := fx.smA (by decide) (by decide) (by decide)
    refine sim_ret ⟨?_, ⟨(hL.1.sm sm).mono (by omega), hL.2.sm sm⟩, ?_, fx, v13⟩
    · refine R0.rd c1 (B' := B + 40) ⟨fun a a1 a2 => ?_, ?_⟩ (by omega) ?_ ?_ ?_ ?_ ?_ ?_ ?_ ?_ ?_ ?_ ?_ ?_
      · rw [w6, v1]; exact i1.1 a a1 a2
      · rw [w4, v0]; have := i1.2; omega
      · rw [wk 1 (by decide) (by decide) (by decide) (by decide) (by decide), gU_k (by decide)]
      · rw [wk 2 (by decide) (by decide) (by decide) (by decide) (by decide), gU_k (by decide)]
      · rw [wk 3 (by decide) (by decide) (by decide) (by decide) (by decide), gU_k (by decide)]
      · rw [wk 5 (by decide) (by decide) (by decide) (by decide) (by decide), gU_k (by decide)]
      · rw [wk 7 (by decide) (by decide) (by decide) (by decide) (by decide), gU_k (by decide)]
      · rw [wk 8 (by decide) (by decide) (by decide) (by decide) (by decide), gU_k (by decide)]
      · intro j hj; rw [w4]; exact i4 j hj
      · rw [vk 2 (by decide) (by decide) (by decide) (by decide) (by decide) (by decide), gU_k (by decide)]
      · rw [vk 3 (by decide) (by decide) (by decide) (by decide) (by decide) (by decide), gU_k (by decide)]
      · rw [vk 29 (by decide) (by decide) (by decide) (by decide) (by decide) (by decide), gU_k (by decide)]
      · exact v30
      · intro j hj; rw [v0, gU_k (by decide)]; exact i6 j hj
    · intro d hd
      obtain ⟨p1, p2, p3, p4, p5, p6⟩ := hd
      have z18 : w' 0 18 = τ 0 18 := by rw [v0]; exact i6 18 (by decide)
      have z19 : w' 0 19 = τ 0 19 := by rw [v0]; exact i6 19 (by decide)
      have z21 : w' 0 21 = τ 0 21 := by rw [v0]; exact i6 21 (by decide)
      have occ : ∀ x, gU τ 13 f (-4) 13 x ≠ -4 → x ≠ f ∧ τ 13 x ≠ -4 := fun x hx => by
        rw [gU_at] at hx
        by_cases c : x = f
        · rw [if_pos c] at hx; exact absurd rfl hx
        · rw [if_neg c] at hx; exact ⟨c, hx⟩
      unfold Rpa
      rw [z18, z19, z21, wk 17 (by decide) (by decide) (by decide) (by decide) (by decide), wk 24 (by decide) (by decide) (by decide) (by decide) (by decide), wk 25 (by decide) (by decide) (by decide) (by decide) (by decide), wk 26 (by decide) (by decide) (by decide) (by decide) (by decide), vk 14 (by decide) (by decide) (by decide) (by decide) (by decide) (by decide), vk 15 (by decide) (by decide) (by decide) (by decide) (by decide) (by decide), vk 16 (by decide) (by decide) (by decide) (by decide) (by decide) (by decide), w18, w23, v13, v17]
      refine ⟨⟨p1.1, p1.2.1, p1.2.2.1, by have := p1.2.2.2; omega⟩, fun x x1 x2 => ?_, fun x x1 x2 => ?_, fun x x1 x2 x3 => p4 x x1 x2 (occ x x3).2, fun x y x1 x2 y1 y2 x3 y3 => p5 x y x1 x2 y1 y2 (occ x x3).2 (occ y y3).2, fun x x1 x2 => ?_⟩
      · rw [gU_at, gU_at]
        by_cases c : x = q
        · rw [if_pos c, if_pos c]; exact ⟨rfl, Or.inl rfl⟩
        · rw [if_neg c, if_neg c]
          refine ⟨(p2 x x1 x2).1, ?_⟩
          rcases (p2 x x1 x2).2 with z | z
          · exact Or.inl z
          · refine Or.inr ⟨z.1, ?_⟩
            rw [gU_i (fun e => c (by rw [hq, ← e]; exact z.2.symm))]
            exact z.2
      · have r := p3 x x1 x2
        rw [gU_at, gU_at]
        by_cases c : x = f
        · rw [if_pos c, if_pos c]; exact ⟨rfl, Or.inl rfl, r.2.2⟩
        · rw [if_neg c, if_neg c]
          refine ⟨r.1, ?_, r.2.2⟩
          rcases r.2.1 with z | z
          · exact Or.inl z
          · refine Or.inr ⟨z.1, ?_, z.2.2⟩
            rw [gU_i (fun e => c (by rw [← z.2.1, e]; exact hq2.2.1))]
            exact z.2.1
      · rw [w27, v19]; exact i2 x x1 x2
  · rw [gU_i (by decide)]; exact h0.2.2.2.2.1
  · have := h0.2.2.2.2.2; omega
