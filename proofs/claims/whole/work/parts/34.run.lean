/-! another shape of the lines; the run of pages -/
/-- what a new shape leaves -/
def FrL (σ τ s s' : gM) : Prop := (∀ k, k ≠ 3 → k ≠ 4 → k ≠ 6 → k ≠ 7 → k ≠ 8 → k ≠ 9 → k ≠ 10 → k ≠ 11 → k ≠ 12 → k ≠ 13 → k ≠ 14 → k ≠ 15 → k ≠ 16 → s k = σ k) ∧ s 4 11 = σ 4 11 ∧
  (∀ k, k ≠ 0 → k ≠ 1 → k ≠ 2 → k ≠ 3 → k ≠ 29 → k ≠ 30 → (k < 4 ∨ 12 < k) → s' k = τ k) ∧ (∀ j, j ≠ 4 → j ≠ 5 → j ≠ 6 → s' 0 j = τ 0 j)
theorem lines_R {B v1 v2 : Int} {σ τ : gM} (h0 : R0 B σ τ) (hL : Ln B σ τ) (hB : B + 1200 ≤ 1073741824) :
    Sim (F_Co_lines σ v1 v2) (F_Mo_lines τ v1 v2) (fun s r s' r' => r' = r ∧ R0 (B + 1200) s s' ∧ Ln (B + 1200) s s' ∧ FrL σ τ s s') := by
  have non : Sim (some (σ, -1)) (some (τ, -1)) (fun s r s' r' => r' = r ∧ R0 (B + 1200) s s' ∧ Ln (B + 1200) s s' ∧ FrL σ τ s s') :=
    sim_ret ⟨rfl, h0.mono (by omega), hL.mono (by omega), fun _ _ _ _ _ _ _ _ _ _ _ _ _ _ => rfl, rfl, fun _ _ _ _ _ _ _ _ => rfl, fun _ _ _ _ => rfl⟩
  have yes : (v1 = 1 ∨ v1 = 2 ∨ v1 = 4) → Sim (j_Co_lines_17 σ v1 v2) (j_Mo_lines_15 τ v1 v2) (fun s r s' r' => r' = r ∧ R0 (B + 1200) s s' ∧ Ln (B + 1200) s s' ∧ FrL σ τ s s') := by
    intro hv
    unfold j_Co_lines_17 j_Mo_lines_15 j_Co_lines_27 j_Mo_lines_24
    by_cases c1 : v2 < 1
    · rw [if_pos c1, gk_e (in_n (Or.inl c1)), if_pos rfl]; exact non
    by_cases c2 : 4 < v2
    · rw [if_neg c1, if_pos c2, gk_e (in_n (Or.inr c2)), if_pos rfl]; exact non
    rw [if_neg c1, if_neg c2, gk_e (in_y ⟨by omega, by omega⟩), if_neg (by decide)]
    unfold F_Ca_reshape
    obtain ⟨s, r, s', r', e1, e2, q1, q2, q3, q4, q5⟩ := drive_R (D := 1200) (f := 0) (n := 64) (c := -1) (t := 0) h0 hL (by decide) (by decide) (by decide) (Or.inl ⟨rfl, rfl⟩) (by decide) hB
    have hm : 1 ≤ v1 * v2 ∧ v1 * v2 ≤ 16 := by
      rcases hv with z | z | z <;> rw [z] <;> omega
    rw [gk_e e1, gp_p, gp_p, gk_s, ga_p (by omega), show (63 : Int) = 0 + 64 - 1 by decide, gk_e e2, gp_p, gp_p, ga_p (by omega)]
    obtain ⟨qA, qB⟩ := q2
    obtain ⟨⟨hS, h7, h8, h9, h18⟩, L1, L2, L3, L4, L5, L6, TT⟩ := qA
    obtain ⟨n1, n2, n3, n4, n5, n6, n7⟩ := qB
    -- all lines are empty
    have emp : ∀ l, 0 ≤ l → l < 32 → s' 4 l = -4 := fun l l1 l2 => by
      rcases L4 l l1 l2 with z | ⟨z, p, p1, p2⟩
      · exact z
      · have := (L1 p (s' 4 l) l p1.1 p1.2 z.1 z.2 p2).1
        have := (q5 p (s' 4 l) p1.1 p1.2 z.1 (by omega)).1
        omega
    have z0 : ∀ j, j ≠ 5 → j ≠ 6 → gU (gU s' 0 5 v1) 0 6 v2 0 j = s' 0 j := fun j a b => by rw [gU_i b, gU_i a]
    have zk : ∀ k, k ≠ 0 → gU (gU s' 0 5 v1) 0 6 v2 k = s' k := fun k a => by rw [gU_k a, gU_k a]
    have z5 : gU (gU s' 0 5 v1) 0 6 v2 0 5 = v1 := by rw [gU_i (by decide), gU_e]
    have z6 : gU (gU s' 0 5 v1) 0 6 v2 0 6 = v2 := gU_e
    have y0 : ∀ j, j ≠ 7 → j ≠ 8 → gU (gU s 9 7 v1) 9 8 v2 9 j = s 9 j := fun j a b => by rw [gU_i b, gU_i a]
    have yk : ∀ k, k ≠ 9 → gU (gU s 9 7 v1) 9 8 v2 k = s k := fun k a => by rw [gU_k a, gU_k a]
    have y7 : gU (gU s 9 7 v1) 9 8 v2 9 7 = v1 := by rw [gU_i (by decide), gU_e]
    have y8 : gU (gU s 9 7 v1) 9 8 v2 9 8 = v2 := gU_e
    generalize gU (gU s' 0 5 v1) 0 6 v2 = w' at *
    generalize gU (gU s 9 7 v1) 9 8 v2 = w at *
    have hS2 : Shp w' := by
      unfold Shp
      rw [z5, z6]
      exact ⟨hv, by omega⟩
    have noOn : ∀ p b l, 0 ≤ p → p < 2 → 0 ≤ b → ¬ On w' p b l := fun p b l p1 p2 b1 o => by
      have hbd := o.bd hS2 p1 p2
      have := o.2.2
      rw [zk 4 (by decide), emp l hbd.1 hbd.2] at this
      omega
    have cn : ∀ i, 0 ≤ i → i < 128 → s 10 i = 0 ∧ s 15 i = 0 := fun i i1 i2 => by
      have := q5 (i / 64) (i % 64) (by omega) (by omega) (by omega) (by omega)
      rw [show 64 * (i / 64) + i % 64 = i by omega] at this
      exact this
    refine sim_ret ⟨rfl, ?_, ⟨⟨⟨hS2, ?_, ?_, ?_, ?_⟩, ?_, ?_, ?_, ?_, ?_, ?_, ?_⟩, ?_⟩, ?_⟩
    · unfold R0
      rw [z0 1 (by decide) (by decide), z0 7 (by decide) (by decide), z0 8 (by decide) (by decide), z0 20 (by decide) (by decide), z0 31 (by decide) (by decide), z0 40 (by decide) (by decide), z0 4 (by decide) (by decide), zk 1 (by decide), zk 2 (by decide), zk 3 (by decide), zk 29 (by decide), zk 30 (by decide),
        yk 1 (by decide), yk 2 (by decide), yk 3 (by decide), yk 4 (by decide), yk 5 (by decide), yk 6 (by decide), yk 7 (by decide), yk 8 (by decide)]
      exact q1
    · rw [y7, z5]
    · rw [y8, z6]
    · rw [y0 9 (by decide) (by decide)]; exact h9
    · rw [z0 18 (by decide) (by decide)]; exact h18
    · intro p b l p1 p2 b1 b2 o; exact absurd o (noOn p b l p1 p2 b1)
    · intro p b p1 p2 b1 b2; rw [yk 10 (by decide)]; exact Or.inl (cn _ (by omega) (by omega)).1
    · intro p b l l' p1 p2 b1 o o'; exact absurd o (noOn p b l p1 p2 b1)
    · intro l l1 l2; rw [zk 4 (by decide)]; exact Or.inl (emp l l1 l2)
    · intro p b l b' l' p1 p2 b1 b2 b3 b4 hne o o'; exact absurd o (noOn p b l p1 p2 b1)
    · intro p b l p1 p2 b1 b2 o; exact absurd o (noOn p b l p1 p2 b1)
    · intro i i1 i2; rw [yk 10 (by decide)]; exact Or.inl (cn i i1 i2).1
    · unfold LnB
      rw [yk 13 (by decide), yk 14 (by decide), yk 15 (by decide), yk 16 (by decide), y0 9 (by decide) (by decide), zk 10 (by decide), zk 11 (by decide), zk 12 (by decide), z0 18 (by decide) (by decide), z5, z6]
      refine ⟨n1, n2, n3, n4, n5, n6, fun p p1 p2 => ⟨(n7 p p1 p2).1, ?_⟩⟩
      rw [(n7 p p1 p2).1, gcnt_zero 64 (fun b b1 b2 => (cn (64 * p + b) (by omega) (by omega)).2)]
      omega
    · exact ⟨fun k a b c d e f g h i j l m n => (yk k f).trans (q3.1 k a b c d e f g h i j l m n), by rw [yk 4 (by decide)]; exact q3.2.1, fun k a b c d e f g => (zk k a).trans (q3.2.2.2.1 k a b c d e f g), fun j a b c => by
        rw [z0 j b c]
        by_cases c18 : j = 18
        · subst c18; exact q4
        · exact q3.2.2.2.2 j a c18⟩
  unfold F_Co_lines F_Mo_lines
  by_cases c1 : v1 = 1
  · rw [if_pos c1, if_pos c1]; exact yes (Or.inl c1)
  rw [if_neg c1, if_neg c1]
  by_cases c2 : v1 = 2
  · rw [if_pos c2, if_pos c2]; exact yes (Or.inr (Or.inl c2))
  rw [if_neg c2, if_neg c2]
  by_cases c3 : v1 = 4
  · rw [if_pos c3, if_pos c3]; exact yes (Or.inr (Or.inr c3))
  rw [if_neg c3, if_neg c3]
  exact non
/-- the run: the class' ring (where it begins, how long it is), the model's row -/
def Rrn (f n : Int) (pg : Int → Int) (m : Int) (rn : Int → Int) : Prop := (0 ≤ f ∧ f < 100) ∧ (0 ≤ n ∧ n ≤ 100) ∧ m = n ∧ ∀ i, 0 ≤ i → i < m → rn i = pg ((f + i) % 100) ∧ 0 ≤ rn i ∧ rn i < 32
def adF (f n : Int) (pg : Int → Int) (q : Int) : Int := if 0 < n ∧ pg ((f + (n - 1)) % 100) = q then f else if n < 100 then f else (f + 1) % 100
def adN (f n : Int) (pg : Int → Int) (q : Int) : Int := if 0 < n ∧ pg ((f + (n - 1)) % 100) = q then n else if n < 100 then n + 1 else n
def adP (f n : Int) (pg : Int → Int) (q : Int) : Int → Int := if 0 < n ∧ pg ((f + (n - 1)) % 100) = q then pg else fun i => if i = (f + n) % 100 then q else pg i
theorem pageAt_e {σ : gM} {i : Int} (h0 : 0 ≤ σ 20 1 ∧ σ 20 1 < 100) (h1 : 0 ≤ i) (h2 : i ≤ 100) : F_Ru_pageAt σ i = some (σ, σ 21 ((σ 20 1 + i) % 100)) := by
  unfold F_Ru_pageAt
  rw [ga_p (by omega), gd_p (by omega), gi_p (by omega)]
theorem add_run {σ : gM} {q : Int} (h0 : 0 ≤ σ 20 1 ∧ σ 20 1 < 100) (h1 : 0 ≤ σ 20 2 ∧ σ 20 2 ≤ 100) : ∃ s, F_Ru_append σ q = some (s, 0) ∧ (∀ k, k ≠ 20 → k ≠ 21 → s k = σ k) ∧ s 20 1 = adF (σ 20 1) (σ 20 2) (σ 21) q ∧ s 20 2 = adN (σ 20 1) (σ 20 2) (σ 21) q ∧ s 21 = adP (σ 20 1) (σ 20 2) (σ 21) q := by
  unfold F_Ru_append
  have j : (¬ (0 < σ 20 2 ∧ σ 21 ((σ 20 1 + (σ 20 2 - 1)) % 100) = q)) → ∃ s, j_Ru_append_22 σ q = some (s, 0) ∧ (∀ k, k ≠ 20 → k ≠ 21 → s k = σ k) ∧ s 20 1 = adF (σ 20 1) (σ 20 2) (σ 21) q ∧ s 20 2 = adN (σ 20 1) (σ 20 2) (σ 21) q ∧ s 21 = adP (σ 20 1) (σ 20 2) (σ 21) q := by
    intro hc
    unfold j_Ru_append_22 j_Ru_append_75
    rw [ga_p (by omega), gd_p (by omega), gw_p (by omega), gU_k (show (20 : Nat) ≠ 21 by decide)]
    have eP : ∀ j v, gU (gU σ 21 ((σ 20 1 + σ 20 2) % 100) q) 20 j v 21 = adP (σ 20 1) (σ 20 2) (σ 21) q := fun j v => by
      unfold adP
      rw [if_neg hc, gU_k (show (21 : Nat) ≠ 20 by decide)]
      funext i
      rw [gU_at]
    by_cases c : σ 20 2 < 100
    · rw [if_pos c, ga_p (by omega), gp_p]
      refine ⟨_, rfl, fun k a b => by rw [gU_k a, gU_k b], ?_, ?_, eP _ _⟩
      · unfold adF
        rw [gU_i (by decide), gU_k (by decide), if_neg hc, if_pos c]
      · unfold adN
        rw [gU_e, if_neg hc, if_pos c]
    · rw [if_neg c, ga_p (by omega), gd_p (by omega), gp_p]
      refine ⟨_, rfl, fun k a b => by rw [gU_k a, gU_k b], ?_, ?_, eP _ _⟩
      · unfold adF
        rw [gU_e, if_neg hc, if_neg c]
      · unfold adN
        rw [gU_i (by decide), gU_k (by decide), if_neg hc, if_neg c]
  by_cases c : 0 < σ 20 2
  · rw [if_pos c, ga_p (by omega), gk_e (pageAt_e h0 (by omega) (by omega))]
    by_cases d : σ 21 ((σ 20 1 + (σ 20 2 - 1)) % 100) = q
    · rw [if_pos d]
      unfold adF adN adP
      rw [if_pos ⟨c, d⟩, if_pos ⟨c, d⟩, if_pos ⟨c, d⟩]
      exact ⟨σ, rfl, fun _ _ _ => rfl, rfl, rfl, rfl⟩
    · rw [if_neg d]; exact j (fun z => d z.2)
  · rw [if_neg c]; exact j (fun z => c z.1)
theorem note_run {f n q : Int} {pg : Int → Int} {τ : gM} (h : Rrn f n pg (τ 0 29) (τ 20)) (hq : 0 ≤ q) (hq2 : q < 32) : ∃ s', F_Mo_noteRun τ q = some (s', 0) ∧ (∀ k, k ≠ 0 → k ≠ 20 → s' k = τ k) ∧ (∀ j, j ≠ 29 → s' 0 j = τ 0 j) ∧ Rrn (adF f n pg q) (adN f n pg q) (adP f n pg q) (s' 0 29) (s' 20) := by
  obtain ⟨hf, hn, hm, hr⟩ := h
  have put : ∀ t : gM, (∀ k, k ≠ 0 → k ≠ 20 → t k = τ k) → (∀ j, j ≠ 29 → t 0 j = τ 0 j) → (¬ (0 < n ∧ pg ((f + (n - 1)) % 100) = q)) → (t 0 29 = if n < 100 then n else 99) → (∀ i, 0 ≤ i → i < t 0 29 → t 20 i = pg ((f + (n - t 0 29) + i) % 100) ∧ 0 ≤ t 20 i ∧ t 20 i < 32) →
      ∃ s', j_Mo_noteRun_70 t q = some (s', 0) ∧ (∀ k, k ≠ 0 → k ≠ 20 → s' k = τ k) ∧ (∀ j, j ≠ 29 → s' 0 j = τ 0 j) ∧ Rrn (adF f n pg q) (adN f n pg q) (adP f n pg q) (s' 0 29) (s' 20) := by
    intro t tk t0 hc t29 tr
    have hb : 0 ≤ t 0 29 ∧ t 0 29 < 100 := by rw [t29]; split <;> omega
    unfold j_Mo_noteRun_70
    rw [gw_p (by omega), gU_k (show (0 : Nat) ≠ 20 by decide), ga_p (by omega), gp_p]
    refine ⟨_, rfl, fun k a b => by rw [gU_k a, gU_k b]; exact tk k a b, fun j hj => by rw [gU_i hj, gU_k (by decide)]; exact t0 j hj, ?_⟩
    unfold adF adN adP
    rw [if_neg hc, if_neg hc, if_neg hc, gU_e, gU_k (show (20 : Nat) ≠ 0 by decide)]
    by_cases c : n < 100
    · rw [if_pos c] at t29
      rw [if_pos c, if_pos c]
      refine ⟨hf, by omega, by omega, fun i i1 i2 => ?_⟩
      rw [gU_at]
      dsimp only
      by_cases d : i = t 0 29
      · rw [if_pos d, if_pos (by omega)]; exact ⟨rfl, hq, hq2⟩
      · rw [if_neg d, if_neg (by omega)]
        have := tr i i1 (by omega)
        rw [show f + (n - t 0 29) + i = f + i by omega] at this
        exact this
    · rw [if_neg c] at t29
      rw [if_neg c, if_neg c]
      refine ⟨by omega, by omega, by omega, fun i i1 i2 => ?_⟩
      rw [gU_at]
      dsimp only
      by_cases d : i = t 0 29
      · rw [if_pos d, if_pos (by omega)]; exact ⟨rfl, hq, hq2⟩
      · rw [if_neg d, if_neg (by omega)]
        have := tr i i1 (by omega)
        rw [show (f + (n - t 0 29) + i) % 100 = ((f + 1) % 100 + i) % 100 by omega] at this
        exact this
  have main : (¬ (0 < n ∧ pg ((f + (n - 1)) % 100) = q)) → ∃ s', j_Mo_noteRun_23 τ q = some (s', 0) ∧ (∀ k, k ≠ 0 → k ≠ 20 → s' k = τ k) ∧ (∀ j, j ≠ 29 → s' 0 j = τ 0 j) ∧ Rrn (adF f n pg q) (adN f n pg q) (adP f n pg q) (s' 0 29) (s' 20) := by
    intro hc
    unfold j_Mo_noteRun_23
    by_cases c : τ 0 29 = 100
    · rw [if_pos c]
      have hn100 : ¬ n < 100 := by omega
      refine to_gl1 (lo := 1) (hi := 100) (R := fun o => ∃ s', o = some (s', 0) ∧ (∀ k, k ≠ 0 → k ≠ 20 → s' k = τ k) ∧ (∀ j, j ≠ 29 → s' 0 j = τ 0 j) ∧ Rrn (adF f n pg q) (adN f n pg q) (adP f n pg q) (s' 0 29) (s' 20))
        (fun j s => (∀ k, k ≠ 20 → s k = τ k) ∧ (∀ i, 0 ≤ i → i < j - 1 → s 20 i = τ 20 (i + 1)) ∧ (∀ i, j - 1 ≤ i → s 20 i = τ 20 i)) ?_ ?_ 200 1 τ (by omega) (by omega) (by omega) ⟨fun _ _ => rfl, fun i i1 i2 => by omega, fun _ _ => rfl⟩
      · rintro rec j s j1 j2 ⟨s1, s2, s3⟩ ih
        unfold l_Mo_noteRun_34
        rw [if_pos j2, ga_p (by omega), gi_p (by omega), gw_p (by omega), ga_p (by omega)]
        refine ih _ ⟨fun k hk => by rw [gU_k hk]; exact s1 k hk, fun i i1 i2 => ?_, fun i i1 => ?_⟩
        · rw [gU_at]
          by_cases d : i = j - 1
          · rw [if_pos d, s3 j (by omega), d, show j - 1 + 1 = j by omega]
          · rw [if_neg d]; exact s2 i i1 (by omega)
        · rw [gU_i (by omega)]; exact s3 i (by omega)
      · rintro rec s ⟨s1, s2, s3⟩
        unfold l_Mo_noteRun_34
        have e0 : s 0 = τ 0 := s1 0 (by decide)
        rw [if_neg (by decide)]
        dsimp only
        rw [e0, ga_p (by omega), gp_p]
        refine put _ (fun k a b => by rw [gU_k a]; exact s1 k b) (fun j hj => by rw [gU_i hj, e0]) hc (by rw [gU_e, if_neg hn100]; omega) (fun i i1 i2 => ?_)
        rw [gU_e] at i2
        rw [gU_e, gU_k (by decide), s2 i i1 (by omega)]
        have := hr (i + 1) (by omega) (by omega)
        rw [show f + (n - (τ 0 29 - 1)) + i = f + (i + 1) by omega]
        exact this
    · rw [if_neg c]
      have hn100 : n < 100 := by omega
      refine put τ (fun _ _ _ => rfl) (fun _ _ => rfl) hc (by rw [if_pos hn100]; exact hm) (fun i i1 i2 => ?_)
      rw [show f + (n - τ 0 29) + i = f + i by omega]
      exact hr i i1 i2
  unfold F_Mo_noteRun
  by_cases c : 0 < τ 0 29
  · have hl := (hr (τ 0 29 - 1) (by omega) (by omega)).1
    rw [hm] at hl
    have n0 : 0 < n := by omega
    rw [if_pos c, ga_p (by omega), gi_p (by omega), hm, hl]
    by_cases d : pg ((f + (n - 1)) % 100) = q
    · rw [if_pos d]
      unfold adF adN adP
      rw [if_pos ⟨n0, d⟩, if_pos ⟨n0, d⟩, if_pos ⟨n0, d⟩]
      exact ⟨τ, rfl, fun _ _ _ => rfl, fun _ _ => rfl, hf, hn, hm, hr⟩
    · rw [if_neg d]; exact main (fun z => d z.2)
  · rw [if_neg c]; exact main (fun z => by omega)
