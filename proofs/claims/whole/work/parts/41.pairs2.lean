/-! more pairs: rule, patterns, load, save, count, about -/
theorem gU_id {σ : gM} {k : Nat} {i v : Int} (h : v = σ k i) : gU σ k i v = σ := by
  subst h
  funext q j
  unfold gU
  split
  · rename_i z; rw [z.1, z.2]
  · rfl
theorem rule_P {B v1 v2 : Int} {σ τ : gM} (h : RR B σ τ) : Pa B (F_Co_rule σ v1 v2) (F_Mo_rule τ v1 v2) := by
  obtain ⟨hce, ⟨u1, u2, u3, u4⟩, hti, hco⟩ := h.1.1
  unfold F_Co_rule F_Mo_rule j_Co_rule_20 j_Mo_rule_31 j_Mo_rule_20 j_Mo_rule_25 j_Mo_rule_31 j_Mo_rule_109
  have upd : ∀ (j v : Int), (j = 7 ∨ j = 8 ∨ j = 20 ∨ j = 31) → Rru (gU σ 1 v1 v 1) (gU τ 0 j v 0 7) (gU τ 0 j v 0 8) (gU τ 0 j v 0 20) (gU τ 0 j v 0 31) → RR B (gU σ 1 v1 v) (gU τ 0 j v) := by
    intro j v hj hr
    refine h.r0 (LC := [1]) (LM := [0]) (L0 := [7, 8, 20, 31]) ?_ ⟨fun k a => ?_, fun k a => ?_, fun i a => ?_, ?_⟩ (by decide) (by decide) (by decide) ?_
    · have n : ∀ i, i ≠ 7 → i ≠ 8 → i ≠ 20 → i ≠ 31 → gU τ 0 j v 0 i = τ 0 i := fun i a b c d => gU_i (by omega)
      refine ⟨?_, hr, ?_, ?_⟩
      · rw [n 1 (by decide) (by decide) (by decide) (by decide)]; exact hce
      · rw [n 40 (by decide) (by decide) (by decide) (by decide)]; exact hti
      · rw [n 4 (by decide) (by decide) (by decide) (by decide)]; exact hco
    · simp only [List.mem_cons, List.not_mem_nil, or_false, not_or] at a; rw [gU_k a]
    · simp only [List.mem_cons, List.not_mem_nil, or_false, not_or] at a; rw [gU_k a]
    · simp only [List.mem_cons, List.not_mem_nil, or_false, not_or] at a; rw [gU_i (by omega)]
    · rw [gU_k (by decide)]
    · rw [gU_k (by decide)]; exact Int.le_refl _
  by_cases c : 0 ≤ v1 ∧ v1 ≤ 3
  · rw [gk_e (within_y c), gk_e (in_y c), if_neg (show ¬ (1 : Int) = 0 by decide), if_neg (show ¬ (1 : Int) = 0 by decide), gi_p (by omega)]
    have hH : gHR v1 = if v1 = 0 then 2 else if v1 = 2 then 2 else 1 := by
      rcases (show v1 = 0 ∨ v1 = 1 ∨ v1 = 2 ∨ v1 = 3 by omega) with z | z | z | z <;> subst z <;> decide
    by_cases d : 0 ≤ v2 ∧ v2 ≤ gHR v1
    · rw [gk_e (within_y d), if_neg (show ¬ (1 : Int) = 0 by decide), gi_p (by omega), gv_p, gw_p (by omega)]
      rw [hH] at d
      rcases (show v1 = 0 ∨ v1 = 1 ∨ v1 = 2 ∨ v1 = 3 by omega) with z | z | z | z
      · subst z
        rw [if_pos rfl] at d
        rw [if_pos rfl, gk_e (in_y d), if_neg (show ¬ (1 : Int) = 0 by decide), if_pos rfl, gv_p, gp_p, u1.1]
        refine sim_ret ⟨rfl, (upd 7 v2 (by omega) ⟨?_, ?_, ?_, ?_⟩).mono (by omega)⟩
        · rw [gU_e, gU_e]; exact ⟨rfl, d.1, d.2⟩
        · rw [gU_i (by decide), gU_i (by decide)]; exact u2
        · rw [gU_i (by decide), gU_i (by decide)]; exact u3
        · rw [gU_i (by decide), gU_i (by decide)]; exact u4
      · subst z
        rw [if_neg (by decide), if_neg (by decide)] at d
        rw [if_neg (by decide), if_neg (by decide), gk_e (in_y d), if_neg (show ¬ (1 : Int) = 0 by decide), if_neg (show ¬ (1 : Int) = 0 by decide), if_pos rfl, gv_p, gp_p, u2.1]
        refine sim_ret ⟨rfl, (upd 8 v2 (by omega) ⟨?_, ?_, ?_, ?_⟩).mono (by omega)⟩
        · rw [gU_i (by decide), gU_i (by decide)]; exact u1
        · rw [gU_e, gU_e]; exact ⟨rfl, d.1, d.2⟩
        · rw [gU_i (by decide), gU_i (by decide)]; exact u3
        · rw [gU_i (by decide), gU_i (by decide)]; exact u4
      · subst z
        rw [if_neg (by decide), if_pos rfl] at d
        rw [if_neg (by decide), if_pos rfl, gk_e (in_y d), if_neg (show ¬ (1 : Int) = 0 by decide), if_neg (show ¬ (2 : Int) = 0 by decide), if_neg (show ¬ (2 : Int) = 1 by decide), if_pos rfl, gv_p, gp_p, u3.1]
        refine sim_ret ⟨rfl, (upd 20 v2 (by omega) ⟨?_, ?_, ?_, ?_⟩).mono (by omega)⟩
        · rw [gU_i (by decide), gU_i (by decide)]; exact u1
        · rw [gU_i (by decide), gU_i (by decide)]; exact u2
        · rw [gU_e, gU_e]; exact ⟨rfl, d.1, d.2⟩
        · rw [gU_i (by decide), gU_i (by decide)]; exact u4
      · subst z
        rw [if_neg (by decide), if_neg (by decide)] at d
        rw [if_neg (by decide), if_neg (by decide), gk_e (in_y d), if_neg (show ¬ (1 : Int) = 0 by decide), if_neg (show ¬ (3 : Int) = 0 by decide), if_neg (show ¬ (3 : Int) = 1 by decide), if_neg (show ¬ (3 : Int) = 2 by decide), gv_p, gp_p, u4.1]
        refine sim_ret ⟨rfl, (upd 31 v2 (by omega) ⟨?_, ?_, ?_, ?_⟩).mono (by omega)⟩
        · rw [gU_i (by decide), gU_i (by decide)]; exact u1
        · rw [gU_i (by decide), gU_i (by decide)]; exact u2
        · rw [gU_i (by decide), gU_i (by decide)]; exact u3
        · rw [gU_e, gU_e]; exact ⟨rfl, d.1, d.2⟩
    · rw [gk_e (within_n (by omega)), if_pos rfl]
      rw [hH] at d
      rcases (show v1 = 0 ∨ v1 = 1 ∨ v1 = 2 ∨ v1 = 3 by omega) with z | z | z | z
      · subst z
        rw [if_pos rfl] at d
        rw [if_pos rfl, gk_e (in_n (by omega)), if_pos rfl]; exact pa_ret h
      · subst z
        rw [if_neg (by decide), if_neg (by decide)] at d
        rw [if_neg (by decide), if_neg (by decide), gk_e (in_n (by omega)), if_pos rfl]; exact pa_ret h
      · subst z
        rw [if_neg (by decide), if_pos rfl] at d
        rw [if_neg (by decide), if_pos rfl, gk_e (in_n (by omega)), if_pos rfl]; exact pa_ret h
      · subst z
        rw [if_neg (by decide), if_neg (by decide)] at d
        rw [if_neg (by decide), if_neg (by decide), gk_e (in_n (by omega)), if_pos rfl]; exact pa_ret h
  · rw [gk_e (within_n (by omega)), gk_e (in_n (by omega)), if_pos rfl, if_pos rfl]
    exact pa_ret h
theorem patterns_P {B v1 v2 : Int} {σ τ : gM} (h : RR B σ τ) : Pa B (F_Co_patterns σ v1 v2) (F_Mo_patterns τ v1 v2) := by
  unfold F_Co_patterns F_Mo_patterns j_Co_patterns_17 j_Mo_patterns_19
  by_cases c : 0 ≤ v1 ∧ v1 ≤ 13
  · rw [gk_e (within_y c), gk_e (in_y c), if_neg (show ¬ (1 : Int) = 0 by decide), if_neg (show ¬ (1 : Int) = 0 by decide)]
    by_cases d : 0 ≤ v2 ∧ v2 ≤ 2
    · rw [gk_e (within_y d), gk_e (in_y d), if_neg (show ¬ (1 : Int) = 0 by decide), if_neg (show ¬ (1 : Int) = 0 by decide)]
      refine sim_gl2 (lo := 0) (hi := 8192) (fun j s a s' a' => s = σ ∧ s' = τ ∧ a' = a ∧ 0 ≤ a ∧ a ≤ j) ?_ ?_ 8200 8200 0 σ 0 τ 0 (by omega) (by omega) (by omega) (by omega) ⟨rfl, rfl, rfl, by omega, by omega⟩
      · rintro rec rec' j s a s' a' j1 j2 ⟨rfl, rfl, rfl, a1, a2⟩ ih
        obtain ⟨x, rfl⟩ : ∃ x : Nat, j = (x : Int) := ⟨j.toNat, by omega⟩
        unfold l_Co_patterns_24 l_Mo_patterns_26 j_Co_patterns_53 j_Mo_patterns_88 j_Mo_patterns_72 j_Mo_patterns_86 j_Mo_patterns_88
        rw [if_pos j2, if_pos j2, gk_e (bitCount_e (by omega)), gk_e (ones_e (by omega))]
        have go : ∀ b, (b = a' ∨ b = a' + 1) → Sim (ga ((x : Int) + 1) fun a1 => rec s b a1) (ga ((x : Int) + 1) fun a1 => rec' s' b a1) (fun s r s' r' => r' = r ∧ RR (B + 2000000) s s') := fun b hb => by
          rw [ga_p (by omega), ga_p (by omega)]
          exact ih s b s' b ⟨rfl, rfl, rfl, by omega, by omega⟩
        by_cases e : ((onN x 13 : Nat) : Int) = v1
        · rw [if_pos e, if_pos e]
          unfold F_Ce_outcome j_Ce_outcome_25
          rw [righted_e (by omega), gk_s, gk_e (mend_e (show x < 8192 by omega))]
          have fin : ∀ t, Sim (gk (some (s, t)) fun s3 a4 => if a4 = v2 then (ga (a' + 1) fun a5 => ga ((x : Int) + 1) fun a1 => rec s3 a5 a1) else (ga ((x : Int) + 1) fun a1 => rec s3 a' a1)) (if t = v2 then (ga (a' + 1) fun a1 => ga ((x : Int) + 1) fun a2 => rec' s' a1 a2) else (ga (a' + 0) fun a1 => ga ((x : Int) + 1) fun a2 => rec' s' a1 a2)) (fun s r s' r' => r' = r ∧ RR (B + 2000000) s s') := by
            intro t
            rw [gk_s]
            by_cases f : t = v2
            · rw [if_pos f, if_pos f, ga_p (x := a' + 1) (by omega), ga_p (x := a' + 1) (by omega)]; exact go (a' + 1) (Or.inr rfl)
            · rw [if_neg f, if_neg f, ga_p (x := a' + 0) (by omega), show a' + 0 = a' by omega]; exact go a' (Or.inl rfl)
          rcases rN_ok (show x < 8192 by omega) with hr | hr
          · rw [if_pos hr, if_pos (show rN x < 0 by omega)]
            exact fin 1
          · obtain ⟨y, hy⟩ : ∃ y : Nat, rN x = (y : Int) := ⟨(rN x).toNat, by omega⟩
            rw [if_neg (show ¬ rN x = -5 by omega), if_neg (show ¬ rN x < 0 by omega), hy, gk_e (valueOf_i (by omega) (by omega)), gk_e (value_i (by omega) (by omega))]
            by_cases g : vC (y : Int) = 0
            · rw [if_pos g, if_pos g]; exact fin 0
            · rw [if_neg g, if_neg g]; exact fin 2
        · rw [if_neg e, if_neg e]; exact go _ (Or.inl rfl)
      · rintro rec rec' s a s' a' ⟨rfl, rfl, rfl, a1, a2⟩
        unfold l_Co_patterns_24 l_Mo_patterns_26
        rw [if_neg (by decide), if_neg (by decide)]
        exact pa_ret h
    · rw [gk_e (within_n (by omega)), gk_e (in_n (by omega)), if_pos rfl, if_pos rfl]
      exact pa_ret h
  · rw [gk_e (within_n (by omega)), gk_e (in_n (by omega)), if_pos rfl, if_pos rfl]
    exact pa_ret h
/-- a load with its count of lost bytes -/
theorem told_R {B p a : Int} {σ τ : gM} (h : MM B σ τ) (hp : 0 ≤ p) (hp2 : p < 2) (ha : 0 ≤ a) (ha2 : a < 1024) (hB : B + 500 ≤ 1073741824) :
    ∃ s r s', F_Co_loadTold σ p a = some (s, r) ∧ F_Mo_loadByte τ p a = some (s', r) ∧ MM (B + 401) s (gU s' 30 9 (s' 30 9 + if r = -5 then 1 else 0)) ∧ FrX LPC LPM LP0 σ τ s (gU s' 30 9 (s' 30 9 + if r = -5 then 1 else 0)) ∧ (r = -5 ∨ (0 ≤ r ∧ r ≤ 255)) ∧ (0 ≤ s' 30 9 ∧ s' 30 9 ≤ B + 400) := by
  have key := sim_ld (K := fun s3 a4 => if a4 = (-5) then (gk (F_Le_add s3 9 1) fun s5 _ => j_Co_loadTold_33 s5 a4) else (j_Co_loadTold_33 s3 a4)) (K' := fun s' r => some (s', r))
    (Q := fun s r s' r' => r' = r ∧ MM (B + 401) s (gU s' 30 9 (s' 30 9 + if r = -5 then 1 else 0)) ∧ FrX LPC LPM LP0 σ τ s (gU s' 30 9 (s' 30 9 + if r = -5 then 1 else 0)) ∧ (r = -5 ∨ (0 ≤ r ∧ r ≤ 255)) ∧ (0 ≤ s' 30 9 ∧ s' 30 9 ≤ B + 400)) h hp hp2 ha ha2 (by omega) (fun s r s' hm hf hr => by
      have hc := hm.1.2.2.2.1 9 (by decide) (by decide) (by decide) (by decide) (by decide)
      unfold j_Co_loadTold_33
      by_cases c : r = -5
      · rw [if_pos c]
        obtain ⟨q1, q2⟩ := count_R (c := 9) (n := 1) hm.1 (by decide) (by decide) (by decide) (by decide) (by decide) (by decide)
        rw [gk_e (add_e (B := B + 400) (by decide) (by decide) (by omega) (by decide) (by omega))]
        refine sim_ret ⟨rfl, ?_, ?_, hr, hc.2⟩
        · rw [if_pos c]
          exact hm.frm (q1.mono (by omega)) (by
            have sm := q2.smA
            exact ⟨(hm.2.1.1.sm sm).mono (by omega), hm.2.1.2.sm sm⟩) q2.frV.frM (by rw [gU_k (by decide)]; exact Int.le_refl _) (by omega)
        · rw [if_pos c]; exact hf.trans (q2.x.mono (by decide) (by decide) (by decide))
      · rw [if_neg c]
        refine sim_ret ⟨rfl, ?_, ?_, hr, hc.2⟩
        · rw [if_neg c, gU_id (by omega)]; exact hm.mono (by omega)
        · rw [if_neg c, gU_id (by omega)]; exact hf)
  obtain ⟨s, r, s', r', e1, e2, rfl, q1, q2, q3, q4⟩ := key
  refine ⟨s, r', s', e1, ?_, q1, q2, q3, q4⟩
  cases ho : F_Mo_loadByte τ p a with
  | none => rw [ho] at e2; cases e2
  | some q => rw [ho] at e2; exact e2
theorem load_P {B v1 v2 : Int} {σ τ : gM} (h : RR B σ τ) (hB : B + 2000000 ≤ 1073741824) : Pa B (F_Co_load σ v1 v2) (F_Mo_load τ v1 v2) := by
  unfold F_Co_load F_Mo_load j_Co_load_18 F_Mo_isPair j_Mo_isPair_24 j_Mo_isPair_25 j_Mo_load_36_30
  by_cases c : 0 ≤ v1 ∧ v1 ≤ 1
  · rw [gk_e (within_y c), gk_e (in_y c), if_neg (show ¬ (1 : Int) = 0 by decide), if_neg (show ¬ (1 : Int) = 0 by decide)]
    by_cases d : 0 ≤ v2 ∧ v2 ≤ 1023
    · rw [gk_e (within_y d), gk_e (in_y d), if_neg (show ¬ (1 : Int) = 0 by decide), if_neg (show ¬ (1 : Int) = 0 by decide), gb_p (by decide), gk_s, if_neg (show ¬ (1 : Int) = 0 by decide)]
      obtain ⟨s, r, s', e1, e2, q1, q2, q3, q4⟩ := told_R (p := v1) (a := v2) h.1 c.1 (by omega) d.1 (by omega) (by omega)
      have ht := mo_of (mo_Co_loadTold (T := σ 4 14) (v1 := v1) (v2 := v2) (Int.le_refl _)) e1
      rw [gk_e e1, gk_e e2, gi_p (by decide)]
      by_cases e : r = -5
      · rw [if_pos e] at q1 q2
        rw [if_pos e, ga_p (by omega), gw_p (by decide)]
        exact sim_ret ⟨rfl, q1.mono (by omega), (h.2.fx q2 (by decide) (by decide) ht).mono (by omega)⟩
      · rw [if_neg e] at q1 q2
        rw [if_neg e, ga_p (by omega), gw_p (by decide)]
        exact sim_ret ⟨rfl, q1.mono (by omega), (h.2.fx q2 (by decide) (by decide) ht).mono (by omega)⟩
    · rw [gk_e (within_n (by omega)), gk_e (in_n (by omega)), if_pos rfl, if_pos rfl, gb_p (by decide), gk_s, if_pos rfl]
      exact pa_ret h
  · rw [gk_e (within_n (by omega)), gk_e (in_n (by omega)), if_pos rfl, if_pos rfl, gb_p (by decide), gk_s, if_pos rfl]
    exact pa_ret h
theorem save_P {B v1 v2 v3 : Int} {σ τ : gM} (h : RR B σ τ) (hB : B + 2000000 ≤ 1073741824) : Pa B (F_Co_save σ v1 v2 v3) (F_Mo_save τ v1 v2 v3) := by
  unfold F_Co_save F_Mo_save j_Co_save_28 j_Mo_save_19 F_Mo_isPair j_Mo_isPair_24 j_Mo_isPair_25
  by_cases c : 0 ≤ v1 ∧ v1 ≤ 1
  · rw [gk_e (within_y c), gk_e (in_y c), if_neg (show ¬ (1 : Int) = 0 by decide), if_neg (show ¬ (1 : Int) = 0 by decide)]
    by_cases d : 0 ≤ v2 ∧ v2 ≤ 1023
    · rw [gk_e (within_y d), gk_e (in_y d), if_neg (show ¬ (1 : Int) = 0 by decide), if_neg (show ¬ (1 : Int) = 0 by decide), gb_p (by decide), gk_s, if_neg (show ¬ (1 : Int) = 0 by decide)]
      by_cases e : 0 ≤ v3 ∧ v3 ≤ 255
      · obtain ⟨t1, t2, t3⟩ := h.1.1.ticks (by omega)
        rw [gk_e (within_y e), gk_e (in_y e), if_neg (show ¬ (1 : Int) = 0 by decide), if_neg (show ¬ (1 : Int) = 0 by decide), gi_p (by decide), gv_p, gk_e t1]
        have key := sim_sv (p := v1) (a := v2) (v := v3) (K := fun s r => some (s, r)) (K' := fun s' r => some (s', r)) (Q := fun s r s' r' => MM (B + 400) s s' ∧ FrX LPC LPM LP0 σ τ s s') h.1 c.1 (by omega) d.1 (by omega) e.1 e.2 (by omega) (fun s s' r r' hm hf => sim_ret ⟨hm, hf⟩)
        obtain ⟨s, r, s', r', e1, e2, q1, q2⟩ := key
        have m1 : ∃ x y, F_Me_touch σ v2 = some (x, y) ∧ F_Ca_change x v1 y v3 = some (s, r) := by
          cases ho : F_Me_touch σ v2 with
          | none => rw [ho] at e1; cases e1
          | some q =>
            obtain ⟨x, y⟩ := q
            rw [ho] at e1
            refine ⟨x, y, rfl, ?_⟩
            rw [gk_s] at e1
            cases hc : F_Ca_change x v1 y v3 with
            | none => rw [hc] at e1; cases e1
            | some q => rw [hc] at e1; exact e1
        have m2 : F_Mo_saveByte τ v1 v2 v3 = some (s', r') := by
          cases ho : F_Mo_saveByte τ v1 v2 v3 with
          | none => rw [ho] at e2; cases e2
          | some q => rw [ho] at e2; exact e2
        obtain ⟨x, y, m3, m4⟩ := m1
        have ht := mo_of (mo_Ca_change (T := σ 4 14) (v1 := v1) (v2 := y) (v3 := v3) (mo_of (mo_Me_touch (T := σ 4 14) (v1 := v2) (Int.le_refl _)) m3)) m4
        obtain ⟨t4, t5, t6⟩ := q1.1.ticks (by omega)
        rw [gk_e m3, gk_e m4, gk_e m2, gk_e t4, gi_p (by decide), ga_p (by omega), gal_p (by omega), ga_p (by omega)]
        exact sim_ret ⟨rfl, q1.mono (by omega), (h.2.fx q2 (by decide) (by decide) ht).mono (by omega)⟩
      · rw [gk_e (within_n (by omega)), gk_e (in_n (by omega)), if_pos rfl, if_pos rfl]
        exact pa_ret h
    · rw [gk_e (within_n (by omega)), gk_e (in_n (by omega)), if_pos rfl, if_pos rfl, gb_p (by decide), gk_s, if_pos rfl]
      exact pa_ret h
  · rw [gk_e (within_n (by omega)), gk_e (in_n (by omega)), if_pos rfl, if_pos rfl, gb_p (by decide), gk_s, if_pos rfl]
    exact pa_ret h
/-- is there an object -/
theorem has_R {B T o : Int} {σ τ : gM} (h : ∀ o, 0 ≤ o → o < 40 → HO B T σ τ o) : ((0 ≤ o ∧ o < 40) ∧ τ 21 o = 1 ∧ F_He_has σ o = some (σ, 1) ∧ F_Mo_isObject τ o = some (τ, 1)) ∨ (¬ ((0 ≤ o ∧ o < 40) ∧ τ 21 o = 1) ∧ F_He_has σ o = some (σ, 0) ∧ F_Mo_isObject τ o = some (τ, 0)) := by
  unfold F_He_has F_Mo_isObject j_He_has_25 j_He_has_26 j_Mo_isObject_23 j_Mo_isObject_24
  by_cases c : 0 ≤ o ∧ o < 40
  · have hc := (h o c.1 c.2).2
    rw [if_neg (show ¬ o < 0 by omega), if_pos c.2, gi_p c, gk_e (in_y (by omega)), if_neg (show ¬ (1 : Int) = 0 by decide), gi_p c, gb_p (by decide), gb_p (by decide)]
    rcases hc with ⟨z1, z2⟩ | ⟨z1, ⟨z2, -⟩, ⟨z3, -⟩, -⟩
    · rw [if_pos z2, if_pos z1]; exact Or.inr ⟨by omega, rfl, by rw [gb_p (by decide)]⟩
    · rw [if_neg (show ¬ σ 29 o = -4 by omega), if_neg (show ¬ τ 21 o = 0 by omega)]; exact Or.inl ⟨c, z1, rfl, by rw [gb_p (by decide)]⟩
  · refine Or.inr ⟨by omega, ?_, ?_⟩
    · by_cases d : o < 0
      · rw [if_pos d, gb_p (by decide)]
      · rw [if_neg d, if_neg (by omega), gb_p (by decide)]
    · rw [gk_e (in_n (by omega)), if_pos rfl, gb_p (by decide)]
theorem count_P {B v1 : Int} {σ τ : gM} (h : RR B σ τ) (hB : B + 2000000 ≤ 1073741824) : Pa B (F_Co_count σ v1) (F_Mo_count τ v1) := by
  unfold F_Co_count F_Mo_count
  by_cases c : 0 ≤ v1 ∧ v1 ≤ 15
  · rw [gk_e (within_y c), gk_e (in_y c), if_neg (show ¬ (1 : Int) = 0 by decide), if_neg (show ¬ (1 : Int) = 0 by decide), gi_p (by omega)]
    have h1 := h.2.1
    have h01 : ∀ o, 0 ≤ o → o < 40 → τ 21 o = 0 ∨ τ 21 o = 1 := fun o o1 o2 => by
      rcases (h1 o o1 o2).2 with z | z
      · exact Or.inl z.1
      · exact Or.inr z.1
    refine to_gl2 (lo := 0) (hi := 40) (R := fun o => Pa B (some (σ, σ 4 v1)) o) (fun j s a => s = τ ∧ a = gcnt (τ 21) j.toNat ∧ 0 ≤ a ∧ a ≤ j) ?_ ?_ 200 0 τ 0 (by omega) (by omega) (by omega) ⟨rfl, rfl, by omega, by omega⟩
    · rintro rec j s a j1 j2 ⟨rfl, ha, a1, a2⟩ ih
      unfold l_Mo_count_16 j_Mo_count_37
      have e : gcnt (s 21) (j + 1).toNat = gcnt (s 21) j.toNat + s 21 j := by
        rw [show (j + 1).toNat = j.toNat + 1 by omega]
        show gcnt (s 21) j.toNat + s 21 ((j.toNat : Nat) : Int) = _
        rw [show ((j.toNat : Nat) : Int) = j by omega]
      rw [if_pos j2, gi_p (by omega)]
      rcases h01 j j1 j2 with z | z
      · rw [if_pos z, ga_p (by omega), ga_p (by omega)]
        exact ih _ _ ⟨rfl, by rw [e, ← ha, z], by omega, by omega⟩
      · rw [if_neg (show ¬ s 21 j = 0 by omega), ga_p (by omega), ga_p (by omega)]
        exact ih _ _ ⟨rfl, by rw [e, ← ha, z], by omega, by omega⟩
    · rintro rec s a ⟨rfl, ha, a1, a2⟩
      unfold l_Mo_count_16
      rw [if_neg (by decide)]
      dsimp only
      obtain ⟨t1, t2, t3⟩ := h.1.1.ticks (by omega)
      by_cases c8 : v1 = 8
      · rw [if_pos c8, c8, h.1.1.2.2.2.2.1]; exact pa_ret h
      rw [if_neg c8]
      by_cases c11 : v1 = 11
      · rw [if_pos c11, c11, h.2.2.2.2, show a = gcnt (s 21) 40 from ha]; exact pa_ret h
      rw [if_neg c11]
      by_cases c14 : v1 = 14
      · rw [if_pos c14, c14, gk_e t1, ga_p (by omega)]; exact pa_ret h
      rw [if_neg c14, gi_p (by omega), (h.1.1.2.2.2.1 v1 c.1 (by omega) c8 c11 c14).1]
      exact pa_ret h
  · rw [gk_e (within_n (by omega)), gk_e (in_n (by omega)), if_pos rfl, if_pos rfl]
    exact pa_ret h
theorem about_P {B v1 v2 : Int} {σ τ : gM} (h : RR B σ τ) (hB : B + 2000000 ≤ 1073741824) : Pa B (F_Co_about σ v1 v2) (F_Mo_about τ v1 v2) := by
  unfold F_Co_about F_Mo_about j_Co_about_95 j_Mo_about_87 j_Mo_about_17
  rcases has_R (o := v1) h.2.1 with ⟨c, x, e1, e2⟩ | ⟨c, e1, e2⟩
  · obtain ⟨x1, x2, x3, x4, x5, x6⟩ := ((h.2.1 v1 c.1 c.2).2.resolve_left (by omega))
    have hT := h.1.1.ticks (by omega)
    rw [gk_e e1, gk_e e2, if_neg (show ¬ (1 : Int) = 0 by decide), if_neg (show ¬ (1 : Int) = 0 by decide)]
    by_cases d : 0 ≤ v2 ∧ v2 ≤ 4
    · rw [gk_e (in_y d), if_neg (show ¬ (1 : Int) = 0 by decide), gi_p c, gi_p c, gi_p c, gi_p c, gi_p c, gi_p c, gi_p c, gi_p c, gi_p c, gi_p c, x2.1, x2.2.1, x2.2.2.1, x2.2.2.2.1, x2.2.2.2.2, ga_p (by omega)]
      by_cases f : v2 = 0
      · rw [if_pos f, if_pos f]; exact pa_ret h
      rw [if_neg f, if_neg f]
      by_cases f : v2 = 1
      · rw [if_pos f, if_pos f]; exact pa_ret h
      rw [if_neg f, if_neg f]
      by_cases f : v2 = 2
      · rw [if_pos f, if_pos f]; exact pa_ret h
      rw [if_neg f, if_neg f]
      by_cases f : v2 = 3
      · rw [if_pos f, if_pos f]
        by_cases g : τ 25 v1 = 0
        · rw [if_pos g, if_pos g]; exact pa_ret h
        · rw [if_neg g, if_neg g]; exact pa_ret h
      rw [if_neg f, if_neg f, if_pos (by omega)]
      exact pa_ret h
    · rw [gk_e (in_n (by omega)), if_pos rfl, if_neg (by omega), if_neg (by omega), if_neg (by omega), if_neg (by omega), if_neg (by omega)]
      exact pa_ret h
  · rw [gk_e e1, gk_e e2, if_pos rfl, if_pos rfl]
    exact pa_ret h
