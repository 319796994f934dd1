/-! pairs on objects: hold, get, put -/
theorem MM.fx {B : Int} {LC LM : List Nat} {L0 : List Int} {σ τ s s' : gM} (h : MM B σ τ) (f : FrX LC LM L0 σ τ s s') (a : ∀ k, k ∈ [1, 2, 3, 4, 5, 6, 7, 8, 9, 10, 11, 12, 13, 14, 15, 16, 17, 18, 19, 20, 21, 23, 24, 25, 26, 27] → k ∉ LC) (b : ∀ k, k ∈ [1, 2, 3, 4, 5, 6, 7, 8, 9, 10, 11, 12, 13, 14, 15, 16, 17, 18, 19, 20, 29, 30] → k ∉ LM) (c : ∀ j : Int, j ∈ [(1 : Int), 4, 5, 6, 7, 8, 18, 19, 20, 21, 29, 31, 40] → j ∉ L0) : MM B s s' := by
  obtain ⟨h0, hL, hP, hw, hr⟩ := h
  have sub : ∀ {l l' : List Nat}, (∀ k, k ∈ l → k ∈ l') → ∀ {m : List Nat}, (∀ k, k ∈ l' → k ∉ m) → ∀ k, k ∈ l → k ∉ m := fun x _ y k hk => y k (x k hk)
  refine ⟨h0.fx f (sub (by decide) a) (sub (by decide) b) (fun j hj => c j (by revert j; decide)), hL.fx f (sub (by decide) a) (sub (by decide) b) (fun j hj => c j (by revert j; decide)), hP.fx f (sub (by decide) a) (sub (by decide) b) (fun j hj => c j (by revert j; decide)) (by rw [f.2.2.1 18 (c 18 (by decide))]; exact Int.le_refl _), fun q q1 q2 => ?_, ?_⟩
  · rw [f.1 19 (a _ (by decide)), f.2.1 18 (b _ (by decide))]; exact hw q q1 q2
  · rw [f.1 20 (a _ (by decide)), f.1 21 (a _ (by decide)), f.2.1 20 (b _ (by decide)), f.2.2.1 29 (c _ (by decide))]; exact hr
theorem frUp {σ τ : gM} {k k' : Nat} {i i' v v' : Int} (h : k ≠ 4) (h0 : k' ≠ 0) : FrX [k] [k'] [] σ τ (gU σ k i v) (gU τ k' i' v') := by
  refine ⟨fun q a => ?_, fun q a => ?_, fun j a => by rw [gU_k (Ne.symm h0)], by rw [gU_k (Ne.symm h)]⟩
  · simp only [List.mem_cons, List.not_mem_nil, or_false, not_or] at a; rw [gU_k a]
  · simp only [List.mem_cons, List.not_mem_nil, or_false, not_or] at a; rw [gU_k a]
theorem hold_P {B v1 v2 v3 : Int} {σ τ : gM} (h : RR B σ τ) : Pa B (F_Co_hold σ v1 v2 v3) (F_Mo_hold τ v1 v2 v3) := by
  unfold F_Co_hold F_Mo_hold j_Co_hold_21_34 j_Co_hold_21_35 j_Mo_hold_12 j_Mo_hold_31
  obtain ⟨h1, h2, ⟨r1, r2⟩, h4⟩ := h.2
  by_cases c : v1 = 0
  · rw [if_pos c, if_pos c, ga_p (by decide), show (8 : Int) - 1 = 7 from rfl]
    by_cases d : 0 ≤ v2 ∧ v2 ≤ 7
    · rw [gk_e (within_y d), gk_e (in_y d), if_neg (show ¬ (1 : Int) = 0 by decide), if_neg (show ¬ (1 : Int) = 0 by decide)]
      have put : (v3 = -1 ∨ ((0 ≤ v3 ∧ v3 < 40) ∧ τ 21 v3 = 1)) → Pa B (j_Co_hold_57_34 σ v2 v3) (j_Mo_hold_34 τ v1 v2 v3) := by
        intro hv
        unfold j_Co_hold_57_34 j_Mo_hold_34 j_Mo_hold_53 j_Mo_hold_76
        rw [gi_p (by omega), gv_p, gw_p (by omega), if_pos c, gi_p (by omega), if_pos c, gw_p (by omega), (r1 v2 (by omega) (by omega)).1]
        refine sim_ret ⟨rfl, (h.1.fx (frUp (by decide) (by decide)) (by decide) (by decide) (by decide)).mono (by omega), HH.mono (B := B) ⟨h1, h2, ⟨fun i i1 i2 => ?_, r2⟩, h4⟩ (by omega)⟩
        rw [gU_at, gU_at]
        split
        · exact ⟨rfl, hv⟩
        · exact r1 i i1 i2
      by_cases e : v3 = -1
      · rw [if_pos e, if_pos e]; exact put (Or.inl e)
      · rw [if_neg e, if_neg e]
        rcases has_R (o := v3) h1 with ⟨x, y, e1, e2⟩ | ⟨x, e1, e2⟩
        · rw [gk_e e1, gk_e e2, if_neg (show ¬ (1 : Int) = 0 by decide), if_neg (show ¬ (1 : Int) = 0 by decide)]; exact put (Or.inr ⟨x, y⟩)
        · rw [gk_e e1, gk_e e2, if_pos rfl, if_pos rfl]; exact pa_ret h
    · rw [gk_e (within_n (by omega)), gk_e (in_n (by omega)), if_pos rfl, if_pos rfl]; exact pa_ret h
  · rw [if_neg c, if_neg c, ga_p (by decide), show (4 : Int) - 1 = 3 from rfl]
    by_cases d : 0 ≤ v2 ∧ v2 ≤ 3
    · rw [gk_e (within_y d), gk_e (in_y d), if_neg (show ¬ (1 : Int) = 0 by decide), if_neg (show ¬ (1 : Int) = 0 by decide)]
      have put : (v3 = -1 ∨ ((0 ≤ v3 ∧ v3 < 40) ∧ τ 21 v3 = 1)) → Pa B (j_Co_hold_57_35 σ v2 v3) (j_Mo_hold_34 τ v1 v2 v3) := by
        intro hv
        unfold j_Co_hold_57_35 j_Mo_hold_34 j_Mo_hold_53 j_Mo_hold_76
        rw [gi_p (by omega), gv_p, gw_p (by omega), if_neg c, gi_p (by omega), if_neg c, gw_p (by omega), (r2 v2 (by omega) (by omega)).1]
        refine sim_ret ⟨rfl, (h.1.fx (frUp (by decide) (by decide)) (by decide) (by decide) (by decide)).mono (by omega), HH.mono (B := B) ⟨h1, h2, ⟨r1, fun i i1 i2 => ?_⟩, h4⟩ (by omega)⟩
        rw [gU_at, gU_at]
        split
        · exact ⟨rfl, hv⟩
        · exact r2 i i1 i2
      by_cases e : v3 = -1
      · rw [if_pos e, if_pos e]; exact put (Or.inl e)
      · rw [if_neg e, if_neg e]
        rcases has_R (o := v3) h1 with ⟨x, y, e1, e2⟩ | ⟨x, e1, e2⟩
        · rw [gk_e e1, gk_e e2, if_neg (show ¬ (1 : Int) = 0 by decide), if_neg (show ¬ (1 : Int) = 0 by decide)]; exact put (Or.inr ⟨x, y⟩)
        · rw [gk_e e1, gk_e e2, if_pos rfl, if_pos rfl]; exact pa_ret h
    · rw [gk_e (within_n (by omega)), gk_e (in_n (by omega)), if_pos rfl, if_pos rfl]; exact pa_ret h
/-- an object's ticks -/
theorem HH.tick {B o x : Int} {σ τ : gM} (h : HH B σ τ) (x1 : 0 ≤ x) (x2 : x ≤ σ 4 14) : HH B (gU σ 33 o x) (gU τ 26 o x) := by
  obtain ⟨h1, h2, h3, h4⟩ := h
  refine ⟨fun p p1 p2 => ?_, h2, h3, h4⟩
  obtain ⟨k1, k2⟩ := h1 p p1 p2
  refine ⟨k1, k2.imp id fun ⟨y1, ⟨y2, y3, y4, y5, y6⟩, y7, y8, y9⟩ => ⟨y1, ⟨y2, y3, y4, y5, ?_⟩, y7, y8, ?_⟩⟩
  · rw [gU_at, gU_at, y6]
  · rw [gU_at]
    show 0 ≤ _ ∧ _ ≤ σ 4 14
    split
    · exact ⟨x1, x2⟩
    · exact y9
theorem field_R {B T o v : Int} {σ τ : gM} (h : ∀ o, 0 ≤ o → o < 40 → HO B T σ τ o) (ho : (0 ≤ o ∧ o < 40) ∧ τ 21 o = 1) (e1 : F_He_has σ o = some (σ, 1)) : (0 ≤ v ∧ v ≤ τ 23 o - 1 ∧ F_He_hasField σ o v = some (σ, 1)) ∨ ((v < 0 ∨ τ 23 o - 1 < v) ∧ F_He_hasField σ o v = some (σ, 0)) := by
  obtain ⟨x1, x2, x3, x4, x5⟩ := ((h o ho.1.1 ho.1.2).2.resolve_left (by omega))
  unfold F_He_hasField j_He_hasField_26 j_He_hasField_27
  rw [gk_e e1, if_neg (show ¬ (1 : Int) = 0 by decide), gi_p ho.1, gb_p (by decide), gb_p (by decide), x2.2.1]
  by_cases c : v < 0
  · rw [if_pos c]; exact Or.inr ⟨Or.inl c, rfl⟩
  rw [if_neg c]
  by_cases d : v < τ 23 o
  · rw [if_pos d]; exact Or.inl ⟨by omega, by omega, rfl⟩
  · rw [if_neg d]; exact Or.inr ⟨by omega, rfl⟩
theorem get_P {B v1 v2 v3 : Int} {σ τ : gM} (h : RR B σ τ) (hB : B + 2000000 ≤ 1073741824) : Pa B (F_Co_get σ v1 v2 v3) (F_Mo_get τ v1 v2 v3) := by
  obtain ⟨h1, h2, h3, h4⟩ := h.2
  unfold F_Co_get F_Mo_get j_Co_get_20 j_Mo_get_33 j_Mo_get_76_30
  by_cases c : 0 ≤ v1 ∧ v1 ≤ 1
  · rw [gk_e (within_y c), gk_e (in_y c), if_neg (show ¬ (1 : Int) = 0 by decide), if_neg (show ¬ (1 : Int) = 0 by decide)]
    rcases has_R (o := v2) h1 with ⟨c2, y, e1, e2⟩ | ⟨x, e1, e2⟩
    · obtain ⟨x1, x2, x3, x4, x5, x6⟩ := ((h1 v2 c2.1 c2.2).2.resolve_left (by omega))
      rw [gk_e e2, if_neg (show ¬ (1 : Int) = 0 by decide), gi_p c2, ga_p (by omega)]
      rcases field_R (v := v3) h1 ⟨c2, y⟩ e1 with ⟨f1, f2, f3⟩ | ⟨f1, f3⟩
      · obtain ⟨t1, t2, t3⟩ := h.1.1.ticks (by omega)
        have hr : τ 23 v2 ≤ rnd (τ 23 v2) := by unfold rnd; omega
        rw [gk_e f3, gk_e (in_y ⟨f1, f2⟩), if_neg (show ¬ (1 : Int) = 0 by decide), if_neg (show ¬ (1 : Int) = 0 by decide), gi_p (by decide), gv_p, gi_p c2, x2.1, ga_p (by omega), gk_e t1, gi_p c2, ga_p (by omega)]
        obtain ⟨s, r, s', d1, d2, q1, q2, q3, q4⟩ := told_R (p := v1) (a := τ 22 v2 + v3) h.1 c.1 (by omega) (by omega) (by omega) (by omega)
        have ht := mo_of (mo_Co_loadTold (T := σ 4 14) (v1 := v1) (v2 := τ 22 v2 + v3) (Int.le_refl _)) d1
        have hH := h.2.fx q2 (by decide) (by decide) ht
        obtain ⟨t4, t5, t6⟩ := q1.1.ticks (by omega)
        have e33 : s 33 v2 = τ 26 v2 := by rw [q2.1 33 (by decide)]; exact x2.2.2.2.2
        have e26 : ∀ v, gU s' 30 9 v 26 v2 = τ 26 v2 := fun v => by
          have := q2.2.1 26 (by decide)
          rw [gU_k (by decide)] at this
          rw [gU_k (by decide), this]
        rw [gk_e d1, gk_e d2, gi_p c2, gi_p (by decide), ga_p (by omega), e33, ga_p (by omega), gw_p c2, gi_p (by decide)]
        have fin : ∀ u, u = gU s' 30 9 (s' 30 9 + if r = -5 then 1 else 0) → Pa B (some (gU s 33 v2 (τ 26 v2 + (s 4 14 - σ 4 14)), r)) (gi v2 40 (gk (F_Mo_allTicks u) fun s3 a4 => gal (a4 - σ 4 14) fun a5 => gal ((u 26 v2) + a5) fun a6 => gw s3 26 40 v2 a6 fun s7 => some (s7, r))) := by
          intro u hu
          subst hu
          rw [gi_p c2, gk_e t4, gal_p (by omega), e26, gal_p (by omega), gw_p c2]
          exact sim_ret ⟨rfl, (q1.fx (frUp (by decide) (by decide)) (by decide) (by decide) (by decide)).mono (by omega), (hH.tick (by omega) (by omega)).mono (by omega)⟩
        by_cases e : r = -5
        · rw [if_pos e] at fin
          rw [if_pos e, ga_p (by omega), gw_p (by decide)]
          exact fin _ rfl
        · rw [if_neg e] at fin
          rw [if_neg e, ga_p (by omega), gw_p (by decide)]
          exact fin _ rfl
      · rw [gk_e f3, gk_e (in_n f1), if_pos rfl, if_pos rfl]; exact pa_ret h
    · have : F_He_hasField σ v2 v3 = some (σ, 0) := by
        unfold F_He_hasField j_He_hasField_26 j_He_hasField_27
        rw [gk_e e1, if_pos rfl, gb_p (by decide)]
      rw [gk_e this, gk_e e2, if_pos rfl, if_pos rfl]; exact pa_ret h
  · rw [gk_e (within_n (by omega)), gk_e (in_n (by omega)), if_pos rfl, if_pos rfl]; exact pa_ret h
theorem sv_R {B p a v : Int} {σ τ : gM} (h : MM B σ τ) (hp : 0 ≤ p) (hp2 : p < 2) (ha : 0 ≤ a) (ha2 : a < 1024) (hv : 0 ≤ v) (hv2 : v ≤ 255) (hB : B + 400 ≤ 1073741824) :
    ∃ x y s r s' r', F_Me_touch σ a = some (x, y) ∧ F_Ca_change x p y v = some (s, r) ∧ F_Mo_saveByte τ p a v = some (s', r') ∧ MM (B + 400) s s' ∧ FrX LPC LPM LP0 σ τ s s' ∧ σ 4 14 ≤ s 4 14 := by
  have key := sim_sv (p := p) (a := a) (v := v) (K := fun s r => some (s, r)) (K' := fun s' r => some (s', r)) (Q := fun s r s' r' => MM (B + 400) s s' ∧ FrX LPC LPM LP0 σ τ s s') h hp hp2 ha ha2 hv hv2 hB (fun s s' r r' hm hf => sim_ret ⟨hm, hf⟩)
  obtain ⟨s, r, s', r', e1, e2, q1, q2⟩ := key
  cases ho : F_Me_touch σ a with
  | none => rw [ho] at e1; cases e1
  | some q =>
    obtain ⟨x, y⟩ := q
    rw [ho, gk_s] at e1
    cases hc : F_Ca_change x p y v with
    | none => rw [hc] at e1; cases e1
    | some w =>
      rw [hc] at e1
      cases hd : F_Mo_saveByte τ p a v with
      | none => rw [hd] at e2; cases e2
      | some z =>
        rw [hd] at e2
        have a1 : w = (s, r) := by cases e1; rfl
        have a2 : z = (s', r') := by cases e2; rfl
        subst a1
        subst a2
        exact ⟨x, y, s, r, s', r', rfl, hc, rfl, q1, q2, mo_of (mo_Ca_change (T := σ 4 14) (v1 := p) (v2 := y) (v3 := v) (mo_of (mo_Me_touch (T := σ 4 14) (v1 := a) (Int.le_refl _)) ho)) hc⟩
theorem put_P {B v1 v2 v3 v4 : Int} {σ τ : gM} (h : RR B σ τ) (hB : B + 2000000 ≤ 1073741824) : Pa B (F_Co_put σ v1 v2 v3 v4) (F_Mo_put τ v1 v2 v3 v4) := by
  obtain ⟨h1, h2, h3, h4⟩ := h.2
  unfold F_Co_put F_Mo_put j_Co_put_20 j_Mo_put_45
  by_cases c : 0 ≤ v1 ∧ v1 ≤ 1
  · rw [gk_e (within_y c), gk_e (in_y c), if_neg (show ¬ (1 : Int) = 0 by decide), if_neg (show ¬ (1 : Int) = 0 by decide)]
    rcases has_R (o := v2) h1 with ⟨c2, y, e1, e2⟩ | ⟨x, e1, e2⟩
    · obtain ⟨x1, x2, x3, x4, x5, x6⟩ := ((h1 v2 c2.1 c2.2).2.resolve_left (by omega))
      rw [gk_e e2, if_neg (show ¬ (1 : Int) = 0 by decide), gi_p c2, ga_p (by omega)]
      rcases field_R (v := v3) h1 ⟨c2, y⟩ e1 with ⟨f1, f2, f3⟩ | ⟨f1, f3⟩
      · rw [gk_e f3, gk_e (in_y ⟨f1, f2⟩), if_neg (show ¬ (1 : Int) = 0 by decide), if_neg (show ¬ (1 : Int) = 0 by decide)]
        have fin : 0 ≤ v4 → v4 ≤ 167 → Pa B (j_Co_put_62 σ v1 v2 v3 v4) (j_Mo_put_71 τ v1 v2 v3 v4) := by
          intro w1 w2
          obtain ⟨t1, t2, t3⟩ := h.1.1.ticks (by omega)
          have hr : τ 23 v2 ≤ rnd (τ 23 v2) := by unfold rnd; omega
          unfold j_Co_put_62 j_Mo_put_71
          obtain ⟨x, y, s, r, s', r', d1, d2, d3, q1, q2, ht⟩ := sv_R (p := v1) (a := τ 22 v2 + v3) (v := v4) h.1 c.1 (by omega) (by omega) (by omega) w1 (by omega) (by omega)
          have hH := h.2.fx q2 (by decide) (by decide) ht
          obtain ⟨t4, t5, t6⟩ := q1.1.ticks (by omega)
          have e33 : s 33 v2 = τ 26 v2 := by rw [q2.1 33 (by decide)]; exact x2.2.2.2.2
          have e26 : s' 26 v2 = τ 26 v2 := by rw [q2.2.1 26 (by decide)]
          have m9 : MM (B + 400) (gU s 33 v2 (τ 26 v2 + (s 4 14 - σ 4 14))) (gU s' 26 v2 (τ 26 v2 + (s 4 14 - σ 4 14))) := q1.fx (frUp (by decide) (by decide)) (by decide) (by decide) (by decide)
          obtain ⟨t7, -, -⟩ := m9.1.ticks (by omega)
          have e4 : gU s 33 v2 (τ 26 v2 + (s 4 14 - σ 4 14)) 4 = s 4 := gU_k (by decide)
          rw [e4] at t7
          rw [gi_p (by decide), gv_p, gi_p c2, x2.1, ga_p (by omega), gk_e d1, gk_e d2, gi_p (by decide), ga_p (by omega), gi_p c2, e33, ga_p (by omega), gw_p c2, gk_e t1, gi_p c2, ga_p (by omega), gk_e d3, gi_p c2, gk_e t4, gal_p (by omega), e26, gal_p (by omega), gw_p c2, gk_e t7, gal_p (by omega), ga_p (by omega)]
          exact sim_ret ⟨rfl, m9.mono (by omega), (hH.tick (by omega) (by omega)).mono (by omega)⟩
        by_cases g : 0 ≤ v4 ∧ v4 ≤ 167
        · rw [gk_e (within_y g), gk_e (in_y g), if_neg (show ¬ (1 : Int) = 0 by decide), if_neg (show ¬ (1 : Int) = 0 by decide)]
          by_cases k : v4 < 128
          · rw [if_pos k, if_neg (show ¬ 127 < v4 by omega)]; exact fin g.1 g.2
          · rw [if_neg k, if_pos (show 127 < v4 by omega), ga_p (by omega), ga_p (by omega), gi_p (by omega)]
            rcases has_R (o := v4 - 128) h1 with ⟨x, y, e1, e2⟩ | ⟨x, e1, e2⟩
            · rw [gk_e e1, if_neg (show ¬ (1 : Int) = 0 by decide), if_neg (show ¬ τ 21 (v4 - 128) = 0 by omega)]; exact fin g.1 g.2
            · rw [gk_e e1, if_pos rfl, if_pos ?_]
              · exact pa_ret h
              · rcases (h1 (v4 - 128) (by omega) (by omega)).2 with z | z
                · exact z.1
                · exact absurd ⟨⟨by omega, by omega⟩, z.1⟩ x
        · rw [gk_e (within_n (by omega)), gk_e (in_n (by omega)), if_pos rfl, if_pos rfl]; exact pa_ret h
      · rw [gk_e f3, gk_e (in_n f1), if_pos rfl, if_pos rfl]; exact pa_ret h
    · have : F_He_hasField σ v2 v3 = some (σ, 0) := by
        unfold F_He_hasField j_He_hasField_26 j_He_hasField_27
        rw [gk_e e1, if_pos rfl, gb_p (by decide)]
      rw [gk_e this, gk_e e2, if_pos rfl, if_pos rfl]; exact pa_ret h
  · rw [gk_e (within_n (by omega)), gk_e (in_n (by omega)), if_pos rfl, if_pos rfl]; exact pa_ret h
