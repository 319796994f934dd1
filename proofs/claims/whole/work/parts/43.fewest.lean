/-! the fewest faults -/
def NX (rn : Int → Int) (m q i x : Int) : Prop := i ≤ x ∧ x ≤ m ∧ (∀ j, i ≤ j → j < x → rn j ≠ q) ∧ (x < m → rn x = q)
theorem NX.uniq {rn : Int → Int} {m q i x y : Int} (h : NX rn m q i x) (k : NX rn m q i y) : x = y := by
  obtain ⟨a1, a2, a3, a4⟩ := h
  obtain ⟨b1, b2, b3, b4⟩ := k
  rcases Int.lt_trichotomy x y with c | c | c
  · exact absurd (a4 (by omega)) (b3 x a1 c)
  · exact c
  · exact absurd (b4 (by omega)) (a3 y b1 c)
theorem NX.step {rn : Int → Int} {m q i x : Int} (h : NX rn m q i x) (hi : i < m) (hq : rn i ≠ q) : NX rn m q (i + 1) x := by
  obtain ⟨a1, a2, a3, a4⟩ := h
  have : i ≠ x := fun e => by subst e; exact hq (a4 hi)
  exact ⟨by omega, a2, fun j j1 j2 => a3 j (by omega) j2, a4⟩
theorem nextIn_e {τ : gM} {q i : Int} (hi : 0 ≤ i) (hi2 : i ≤ τ 0 29) (hm : τ 0 29 ≤ 100) : ∃ x, F_Mo_nextIn τ q i = some (τ, x) ∧ NX (τ 20) (τ 0 29) q i x := by
  unfold F_Mo_nextIn
  refine to_gl1 (lo := i) (hi := τ 0 29) (R := fun o => ∃ x, o = some (τ, x) ∧ NX (τ 20) (τ 0 29) q i x) (fun j s => s = τ ∧ ∀ j', i ≤ j' → j' < j → τ 20 j' ≠ q) ?_ ?_ 200 i τ (Int.le_refl _) hi2 (by omega) ⟨rfl, fun j' a b => by omega⟩
  · rintro rec j s j1 j2 ⟨e, hz⟩ ih
    unfold l_Mo_nextIn_2 j_Mo_nextIn_26
    rw [e, if_pos j2, gi_p (by omega)]
    by_cases c : τ 20 j = q
    · rw [if_pos c]; exact ⟨j, rfl, j1, by omega, hz, fun _ => c⟩
    · rw [if_neg c, ga_p (by omega)]
      exact ih τ ⟨rfl, fun j' a b => by
        by_cases d : j' = j
        · rw [d]; exact c
        · exact hz j' a (by omega)⟩
  · rintro rec s ⟨e, hz⟩
    unfold l_Mo_nextIn_2 j_Mo_nextIn_26
    rw [e, if_neg (by omega)]
    exact ⟨_, rfl, hi2, Int.le_refl _, hz, fun h => by omega⟩
theorem nextUse_e {m q i : Int} {rn : Int → Int} {σ : gM} (hr : Rrn (σ 20 1) (σ 20 2) (σ 21) m rn) (hi : 0 ≤ i) (hi2 : i ≤ m) : ∃ x, F_Ru_nextUse σ q i = some (σ, x) ∧ NX rn m q i x := by
  obtain ⟨hf, hn, hm, hv⟩ := hr
  unfold F_Ru_nextUse
  refine to_gl1 (lo := i) (hi := m) (R := fun o => ∃ x, o = some (σ, x) ∧ NX rn m q i x) (fun j s => s = σ ∧ ∀ j', i ≤ j' → j' < j → rn j' ≠ q) ?_ ?_ 200 i σ (Int.le_refl _) (by omega) (by omega) ⟨rfl, fun j' a b => by omega⟩
  · rintro rec j s j1 j2 ⟨e, hz⟩ ih
    unfold l_Ru_nextUse_2
    have hw := (hv j (by omega) (by omega)).1
    rw [e, if_pos (by omega), gk_e (pageAt_e hf (by omega) (by omega)), ← hw]
    by_cases c : rn j = q
    · rw [if_pos c]
      exact ⟨j, rfl, j1, by omega, hz, fun _ => c⟩
    · rw [if_neg c, ga_p (by omega)]
      exact ih σ ⟨rfl, fun j' a b => by
        by_cases d : j' = j
        · rw [d]; exact c
        · exact hz j' a (by omega)⟩
  · rintro rec s ⟨e, hz⟩
    unfold l_Ru_nextUse_2
    rw [e, if_neg (by omega)]
    exact ⟨m, by rw [hm], hi2, Int.le_refl _, hz, fun h => by omega⟩
theorem furthest_e {σ : gM} : ∃ f, F_Ru_furthest σ = some (σ, f) ∧ (0 ≤ f ∧ f < 32) ∧ (∀ p, 0 ≤ p → p < 32 → σ 22 p ≤ σ 22 f) ∧ ∀ p, 0 ≤ p → p < f → σ 22 p < σ 22 f := by
  unfold F_Ru_furthest
  refine to_gl2 (lo := 1) (hi := 32) (R := fun o => ∃ f, o = some (σ, f) ∧ (0 ≤ f ∧ f < 32) ∧ (∀ p, 0 ≤ p → p < 32 → σ 22 p ≤ σ 22 f) ∧ ∀ p, 0 ≤ p → p < f → σ 22 p < σ 22 f)
    (fun j s a => s = σ ∧ (0 ≤ a ∧ a < j) ∧ (∀ p, 0 ≤ p → p < j → σ 22 p ≤ σ 22 a) ∧ ∀ p, 0 ≤ p → p < a → σ 22 p < σ 22 a) ?_ ?_ 200 1 σ 0 (by omega) (by omega) (by omega) ⟨rfl, by omega, fun p a b => by rw [show p = 0 by omega]; exact Int.le_refl _, fun p a b => by omega⟩
  · rintro rec j s a j1 j2 ⟨e, h1, h2, h3⟩ ih
    unfold l_Ru_furthest_4 j_Ru_furthest_27
    rw [e, if_pos j2, gi_p (by omega), gi_p (by omega)]
    by_cases c : σ 22 a < σ 22 j
    · rw [if_pos c, ga_p (by omega)]
      refine ih σ j ⟨rfl, by omega, fun p p1 p2 => ?_, fun p p1 p2 => ?_⟩
      · by_cases d : p = j
        · rw [d]; exact Int.le_refl _
        · have := h2 p p1 (by omega); omega
      · have := h2 p p1 (by omega); omega
    · rw [if_neg c, ga_p (by omega)]
      refine ih σ a ⟨rfl, by omega, fun p p1 p2 => ?_, h3⟩
      by_cases d : p = j
      · rw [d]; omega
      · exact h2 p p1 (by omega)
  · rintro rec s a ⟨e, h1, h2, h3⟩
    unfold l_Ru_furthest_4
    rw [e, if_neg (by decide)]
    exact ⟨a, rfl, h1, h2, h3⟩
def Nxt (d i : Int) (g : Int → Int) (τ : gM) (p : Int) : Prop := (τ 31 p = 0 ∧ g p = -1) ∨ (τ 31 p = 1 ∧ ∃ x, g p = d + x ∧ NX (τ 20) (τ 0 29) p i x)
theorem far_R {τ : gM} {k1 : gM → Int → gO} {g : Int → Int} {p1 p2 p3 i d f : Int} (hi : 0 ≤ i) (hi2 : i ≤ τ 0 29) (hm : τ 0 29 ≤ 100) (hg : ∀ p, 0 ≤ p → p < 32 → Nxt d i g τ p) (hf : 0 ≤ f) (hf2 : f < 32) (h1 : τ 31 f = 1) (hge : ∀ p, 0 ≤ p → p < 32 → g p ≤ g f) (hlt : ∀ p, 0 ≤ p → p < f → g p < g f) :
    gl2 (l_Mo_fewest_79 k1 p1 p2 p3 i) 200 τ (-4) 0 = k1 τ f := by
  refine to_gl2 (lo := 0) (hi := 32) (R := fun o => o = k1 τ f)
    (fun j s a => s = τ ∧ ((a = -4 ∧ ∀ p, 0 ≤ p → p < j → τ 31 p = 0) ∨ ((0 ≤ a ∧ a < j) ∧ τ 31 a = 1 ∧ ∀ p, 0 ≤ p → p < j → τ 31 p = 1 → g p ≤ g a ∧ (p < a → g p < g a)))) ?_ ?_ 200 0 τ (-4) (by omega) (by omega) (by omega) ⟨rfl, Or.inl ⟨rfl, fun p a b => by omega⟩⟩
  · rintro rec j s a j1 j2 ⟨e, hI⟩ ih
    unfold l_Mo_fewest_79 j_Mo_fewest_122 j_Mo_fewest_126
    rw [e, if_pos j2, gi_p (by omega)]
    rcases hg j j1 j2 with ⟨z1, z2⟩ | ⟨z1, x, z2, z3⟩
    · rw [if_pos z1, ga_p (by omega)]
      refine ih τ a ⟨rfl, ?_⟩
      rcases hI with ⟨y1, y2⟩ | ⟨y1, y2, y3⟩
      · refine Or.inl ⟨y1, fun p p1 p2 => ?_⟩
        by_cases c : p = j
        · rw [c]; exact z1
        · exact y2 p p1 (by omega)
      · refine Or.inr ⟨by omega, y2, fun p p1 p2 p3 => ?_⟩
        by_cases c : p = j
        · rw [c] at p3; omega
        · exact y3 p p1 (by omega) p3
    · rw [if_neg (show ¬ τ 31 j = 0 by omega)]
      rcases hI with ⟨y1, y2⟩ | ⟨y1, y2, y3⟩
      · rw [if_pos y1, ga_p (by omega)]
        refine ih τ j ⟨rfl, Or.inr ⟨by omega, z1, fun p p1 p2 p3 => ?_⟩⟩
        by_cases c : p = j
        · rw [c]; exact ⟨Int.le_refl _, fun h => by omega⟩
        · have := y2 p p1 (by omega); omega
      · rcases hg a y1.1 (by omega) with ⟨w1, w2⟩ | ⟨w1, y, w2, w3⟩
        · omega
        obtain ⟨u, eu, hu⟩ := nextIn_e (q := j) hi hi2 hm
        obtain ⟨v, ev, hv⟩ := nextIn_e (q := a) hi hi2 hm
        have hu' := hu.uniq z3
        have hv' := hv.uniq w3
        rw [if_neg (show ¬ a = -4 by omega), gk_e eu, gk_e ev]
        by_cases c : v < u
        · rw [if_pos c, ga_p (by omega)]
          refine ih τ j ⟨rfl, Or.inr ⟨by omega, z1, fun p p1 p2 p3 => ?_⟩⟩
          by_cases d : p = j
          · rw [d]; exact ⟨Int.le_refl _, fun h => by omega⟩
          · have := y3 p p1 (by omega) p3
            exact ⟨by omega, fun _ => by omega⟩
        · rw [if_neg c, ga_p (by omega)]
          refine ih τ a ⟨rfl, Or.inr ⟨by omega, y2, fun p p1 p2 p3 => ?_⟩⟩
          by_cases d : p = j
          · rw [d]; exact ⟨by omega, fun h => by omega⟩
          · exact y3 p p1 (by omega) p3
  · rintro rec s a ⟨e, hI⟩
    unfold l_Mo_fewest_79
    rw [e, if_neg (by decide)]
    rcases hI with ⟨y1, y2⟩ | ⟨y1, y2, y3⟩
    · have := y2 f hf hf2; omega
    · have a1 := y3 f hf hf2 h1
      have a2 := hge a y1.1 (by omega)
      have : a = f := by
        rcases Int.lt_trichotomy a f with c | c | c
        · have := hlt a y1.1 c; omega
        · exact c
        · have := a1.2 c; omega
      rw [this]
theorem fewest_P {B v1 : Int} {σ τ : gM} (h : RR B σ τ) (hB : B + 2000000 ≤ 1073741824) : Pa B (F_Co_fewest σ v1) (F_Mo_fewest τ v1) := by
  unfold F_Co_fewest F_Mo_fewest j_Co_fewest_11 F_Ru_fewestFaults
  by_cases c1 : v1 < 1
  · rw [if_pos c1, gk_e (in_n (Or.inl c1)), if_pos rfl]; exact pa_ret h
  by_cases c2 : 16 < v1
  · rw [if_neg c1, if_pos c2, gk_e (in_n (Or.inr c2)), if_pos rfl]; exact pa_ret h
  rw [if_neg c1, if_neg c2, gk_e (in_y ⟨by omega, by omega⟩), if_neg (by decide)]
  have hr := h.1.2.2.2.2
  obtain ⟨hf, hn, hm, hv⟩ := id hr
  have key : Sim (gl1 (l_Ru_fewestFaults_2 (fun s1 => gl3 (l_Ru_fewestFaults_28 v1) 200 s1 0 0 0) v1) 200 σ 0) (gl1 (l_Mo_fewest_14 (fun s3 => gl3 (l_Mo_fewest_40 v1) 200 s3 0 0 0) v1) 200 τ 0)
      (fun s r s' r' => r' = r ∧ (∀ k, k ≠ 22 → s k = σ k) ∧ ∀ k, k ≠ 31 → s' k = τ k) := by
    refine sim_gl1 (lo := 0) (hi := 32) (fun j s s' => (∀ k, k ≠ 22 → s k = σ k) ∧ (∀ k, k ≠ 31 → s' k = τ k) ∧ (∀ p, 0 ≤ p → p < j → s 22 p = -1) ∧ ∀ p, 0 ≤ p → p < j → s' 31 p = 0) ?_ ?_ 200 200 0 σ τ (by omega) (by omega) (by omega) (by omega) ⟨fun _ _ => rfl, fun _ _ => rfl, fun p a b => by omega, fun p a b => by omega⟩
    · rintro rec rec' j s s' j1 j2 ⟨i1, i2, i3, i4⟩ ih
      unfold l_Ru_fewestFaults_2 l_Mo_fewest_14
      rw [if_pos j2, if_pos j2, gw_p (by omega), gwb_p ⟨by omega, by decide⟩, ga_p (by omega), ga_p (by omega)]
      refine ih _ _ ⟨fun k hk => by rw [gU_k hk]; exact i1 k hk, fun k hk => by rw [gU_k hk]; exact i2 k hk, fun p p1 p2 => ?_, fun p p1 p2 => ?_⟩
      · rw [gU_at]; split
        · rfl
        · exact i3 p p1 (by omega)
      · rw [gU_at]; split
        · rfl
        · exact i4 p p1 (by omega)
    · rintro rec rec' s s' ⟨i1, i2, i3, i4⟩
      unfold l_Ru_fewestFaults_2 l_Mo_fewest_14
      have e20 : s 20 = σ 20 := i1 20 (by decide)
      rw [if_neg (by decide), if_neg (by decide)]
      dsimp only
      refine sim_gl3 (lo := 0) (hi := τ 0 29) (fun i s a b s' a' b' => (∀ k, k ≠ 22 → s k = σ k) ∧ (∀ k, k ≠ 31 → s' k = τ k) ∧ (∀ p, 0 ≤ p → p < 32 → Nxt 0 i (s 22) s' p) ∧ (b' = a ∧ 0 ≤ a ∧ a ≤ i) ∧ a' = b ∧ b = gcnt (s' 31) 32 ∧ 0 ≤ b ∧ b ≤ v1) ?_ ?_ 200 200 0 s 0 0 s' 0 0 (by omega) (by omega) (by omega) (by omega) ⟨i1, i2, fun p p1 p2 => Or.inl ⟨i4 p p1 p2, i3 p p1 p2⟩, ⟨rfl, by omega, by omega⟩, rfl, (gcnt_zero 32 (fun b b1 b2 => i4 b b1 b2)).symm, by omega, by omega⟩
      · rintro rec rec' i s a b s' a' b' j1 j2 ⟨k1, k2, k3, ⟨k4, k5, k6⟩, k7, k8, k9, k10⟩ ih
        subst k4 k7
        have hw := hv i j1 j2
        have q20 : s 20 = σ 20 := k1 20 (by decide)
        have q21 : s 21 = σ 21 := k1 21 (by decide)
        have z0 : s' 0 = τ 0 := k2 0 (by decide)
        have z20 : s' 20 = τ 20 := k2 20 (by decide)
        have tail : ∀ t t' c e, (∀ k, k ≠ 22 → t k = σ k) → (∀ k, k ≠ 31 → t' k = τ k) → (∀ p, 0 ≤ p → p < 32 → p ≠ τ 20 i → Nxt 0 i (t 22) t' p) → t' 31 (τ 20 i) = 1 → c = gcnt (t' 31) 32 → 0 ≤ c → c ≤ v1 → 0 ≤ e → e ≤ i + 1 →
            Sim (j_Ru_fewestFaults_80 rec t v1 e c i (τ 20 i)) (j_Mo_fewest_159 rec' t' v1 c e i) (fun s r s' r' => r' = r ∧ (∀ k, k ≠ 22 → s k = σ k) ∧ ∀ k, k ≠ 31 → s' k = τ k) := by
          intro t t' c e t1 t2 t3 t4 t5 t6 t7 t8 t9
          unfold j_Ru_fewestFaults_80 j_Mo_fewest_159
          have u20 : t 20 = σ 20 := t1 20 (by decide)
          have u21 : t 21 = σ 21 := t1 21 (by decide)
          have u0 : t' 0 = τ 0 := t2 0 (by decide)
          have u20' : t' 20 = τ 20 := t2 20 (by decide)
          obtain ⟨x, ex, hx⟩ := nextUse_e (σ := t) (m := τ 0 29) (rn := τ 20) (q := τ 20 i) (i := i + 1) (by rw [u20, u21]; exact hr) (by omega) (by omega)
          rw [ga_p (by omega), gk_e ex, gw_p hw.2, ga_p (by omega), ga_p (by omega)]
          refine ih _ _ _ _ _ _ ⟨fun k hk => by rw [gU_k hk]; exact t1 k hk, t2, fun p p1 p2 => ?_, ⟨rfl, t8, t9⟩, rfl, t5, t6, t7⟩
          unfold Nxt
          rw [u0, u20']
          by_cases d : p = τ 20 i
          · refine Or.inr ⟨by rw [d]; exact t4, x, ?_, by rw [d]; exact hx⟩
            rw [d, gU_e]; omega
          · rw [gU_i d]
            have := t3 p p1 p2 d
            unfold Nxt at this
            rw [u0, u20'] at this
            rcases this with z | ⟨z1, y, z2, z3⟩
            · exact Or.inl z
            · exact Or.inr ⟨z1, y, z2, z3.step j2 (fun q => d q.symm)⟩
        unfold l_Ru_fewestFaults_28 l_Mo_fewest_40 j_Mo_fewest_143
        have hpa : F_Ru_pageAt s i = some (s, τ 20 i) := by
          rw [pageAt_e (by rw [q20]; exact hf) j1 (by omega), q20, q21, ← hw.1]
        rw [q20, if_pos (show i < σ 20 2 by omega), gk_e hpa, gi_p hw.2, z0, if_pos j2, gi_p (by omega), z20, gi_p hw.2]
        rcases k3 (τ 20 i) hw.2.1 hw.2.2 with ⟨z1, z2⟩ | ⟨z1, x, z2, z3⟩
        · have new : ∀ w t t' c, w = τ 20 i → (∀ k, k ≠ 22 → t k = σ k) → (∀ k, k ≠ 31 → t' k = τ k) → (∀ p, 0 ≤ p → p < 32 → p ≠ τ 20 i → Nxt 0 i (t 22) t' p) → t' 31 (τ 20 i) = 0 → c = gcnt (t' 31) 32 → 0 ≤ c → c + 1 ≤ v1 →
              Sim (j_Ru_fewestFaults_80 rec t v1 (b' + 1) (c + 1) i (τ 20 i)) (gi i 100 <| gwb t' 31 32 w 1 fun s1 => ga (c + 1) fun a2 => j_Mo_fewest_159 rec' s1 v1 a2 (b' + 1) i) (fun s r s' r' => r' = r ∧ (∀ k, k ≠ 22 → s k = σ k) ∧ ∀ k, k ≠ 31 → s' k = τ k) := by
            intro w t t' c ew t1 t2 t3 t4 t5 t6 t7
            subst ew
            rw [gi_p (by omega), gwb_p ⟨hw.2, by decide⟩, ga_p (by omega)]
            refine tail t _ (c + 1) (b' + 1) t1 (fun k hk => by rw [gU_k hk]; exact t2 k hk) (fun p p1 p2 p3 => ?_) gU_e ?_ (by omega) t7 (by omega) (by omega)
            · have := t3 p p1 p2 p3
              unfold Nxt at this ⊢
              rw [gU_i p3, gU_k (show (20 : Nat) ≠ 31 by decide), gU_k (show (0 : Nat) ≠ 31 by decide)]
              exact this
            · rw [gcnt_upd (f := t' 31) (g := gU t' 31 (τ 20 i) 1 31) (c := τ 20 i) 32 hw.2.1 hw.2.2 (fun b hb => gU_i hb), gU_e, t4]
              omega
          rw [if_pos z2, if_pos z1, ga_p (x := b' + 1) (by omega), ga_p (x := b' + 1) (by omega)]
          by_cases c : a' < v1
          · rw [if_pos c, if_neg (show ¬ a' = v1 by omega), ga_p (x := a' + 1) (by omega)]
            exact new _ s s' a' rfl k1 k2 (fun p p1 p2 _ => k3 p p1 p2) z1 k8 k9 (by omega)
          · have ek : a' = v1 := by omega
            obtain ⟨f, ef, f1, f2, f3⟩ := furthest_e (σ := s)
            have hf1 : s' 31 f = 1 := by
              refine Decidable.byContradiction fun nf => ?_
              have z := gcnt_zero (f := s' 31) 32 (fun p p1 p2 => by
                rcases k3 p p1 p2 with y | ⟨y1, x, y2, y3⟩
                · exact y.1
                · have := f2 p p1 p2
                  rcases k3 f f1.1 f1.2 with w | w
                  · have := y3.1; omega
                  · exact absurd w.1 nf)
              omega
            have hne : f ≠ τ 20 i := fun e => by rw [e] at hf1; omega
            rw [if_neg c, if_pos ek, gk_e ef, gw_p f1, far_R (d := 0) (g := s 22) (f := f) j1 (by rw [z0]; omega) (by rw [z0]; omega) k3 f1.1 f1.2 hf1 f2 f3]
            rw [gwb_p ⟨f1, by decide⟩, ga_p (by omega)]
            have := new (gU s' 31 f 0 20 i) (gU s 22 f (-1)) (gU s' 31 f 0) (a' + -1) (by rw [gU_k (by decide), z20]) (fun k hk => by rw [gU_k hk]; exact k1 k hk) (fun k hk => by rw [gU_k hk]; exact k2 k hk) (fun p p1 p2 p3 => ?_) (by rw [gU_i (fun e => hne e.symm)]; exact z1) ?_ (by omega) (by omega)
            · rw [show a' + -1 + 1 = a' by omega] at this ⊢
              exact this
            · unfold Nxt
              rw [gU_k (show (20 : Nat) ≠ 31 by decide), gU_k (show (0 : Nat) ≠ 31 by decide), gU_at, gU_at]
              by_cases d : p = f
              · rw [if_pos d, if_pos d]; exact Or.inl ⟨rfl, rfl⟩
              · rw [if_neg d, if_neg d]; exact k3 p p1 p2
            · rw [gcnt_upd (f := s' 31) (g := gU s' 31 f 0 31) (c := f) 32 f1.1 f1.2 (fun b hb => gU_i hb), gU_e, hf1]
              omega
        · rw [if_neg (show ¬ s 22 (τ 20 i) = -1 by have := z3.1; omega), if_neg (show ¬ s' 31 (τ 20 i) = 0 by omega)]
          exact tail s s' a' b' k1 k2 (fun p p1 p2 _ => k3 p p1 p2) z1 k8 k9 k10 k5 (by omega)
      · rintro rec rec' s a b s' a' b' ⟨k1, k2, k3, ⟨k4, k5, k6⟩, k7, k8, k9, k10⟩
        unfold l_Ru_fewestFaults_28 l_Mo_fewest_40
        have q20 : s 20 = σ 20 := k1 20 (by decide)
        have z0 : s' 0 = τ 0 := k2 0 (by decide)
        rw [q20, z0, if_neg (by omega), if_neg (by omega)]
        exact sim_ret ⟨k4, k1, k2⟩
  obtain ⟨s, r, s', r', e1, e2, q1, q2, q3⟩ := key
  rw [gk_e e1, e2]
  have fx : FrX [22] [31] [] σ τ s s' := by
    refine ⟨fun k a => ?_, fun k a => ?_, fun j a => by rw [q3 0 (by decide)], by rw [q2 4 (by decide)]⟩
    · simp only [List.mem_cons, List.not_mem_nil, or_false, not_or] at a; exact q2 k a
    · simp only [List.mem_cons, List.not_mem_nil, or_false, not_or] at a; exact q3 k a
  exact sim_ret ⟨q1, (h.1.fx fx (by decide) (by decide) (by decide)).mono (by omega), (h.2.fx fx (by decide) (by decide) (by rw [q2 4 (by decide)]; exact Int.le_refl _)).mono (by omega)⟩
