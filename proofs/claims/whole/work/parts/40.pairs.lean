/-! the heap's relation; the whole relation; pairs of simple calls -/
def rnd (x : Int) : Int := (x + 7) / 8 * 8
/-- one object -/
def HO (B T : Int) (σ τ : gM) (o : Int) : Prop := (0 ≤ τ 24 o ∧ τ 24 o ≤ B) ∧ ((τ 21 o = 0 ∧ σ 29 o = -4) ∨ (τ 21 o = 1 ∧ (σ 29 o = τ 22 o ∧ σ 30 o = τ 23 o ∧ σ 31 o = τ 24 o ∧ σ 32 o = τ 25 o ∧ σ 33 o = τ 26 o) ∧ (0 ≤ τ 22 o ∧ τ 22 o % 8 = 0 ∧ 1 ≤ τ 23 o ∧ τ 23 o ≤ 24 ∧ τ 22 o + rnd (τ 23 o) ≤ 1024) ∧ (τ 25 o = 0 ∨ τ 25 o = 1) ∧ 0 ≤ τ 26 o ∧ τ 26 o ≤ T))
def HD (τ : gM) : Prop := ∀ o o', 0 ≤ o → o < 40 → 0 ≤ o' → o' < 40 → τ 21 o = 1 → τ 21 o' = 1 → o ≠ o' → τ 22 o + rnd (τ 23 o) ≤ τ 22 o' ∨ τ 22 o' + rnd (τ 23 o') ≤ τ 22 o
def HR (σ τ : gM) : Prop := (∀ i, 0 ≤ i → i < 8 → σ 34 i = τ 27 i ∧ (τ 27 i = -1 ∨ ((0 ≤ τ 27 i ∧ τ 27 i < 40) ∧ τ 21 (τ 27 i) = 1))) ∧ (∀ i, 0 ≤ i → i < 4 → σ 35 i = τ 28 i ∧ (τ 28 i = -1 ∨ ((0 ≤ τ 28 i ∧ τ 28 i < 40) ∧ τ 21 (τ 28 i) = 1)))
def HH (B : Int) (σ τ : gM) : Prop := (∀ o, 0 ≤ o → o < 40 → HO B (σ 4 14) σ τ o) ∧ HD τ ∧ HR σ τ ∧ σ 4 11 = gcnt (τ 21) 40
theorem HH.mono {B B' : Int} {σ τ : gM} (h : HH B σ τ) (hb : B ≤ B') : HH B' σ τ := ⟨fun o o1 o2 => ⟨⟨(h.1 o o1 o2).1.1, Int.le_trans (h.1 o o1 o2).1.2 hb⟩, (h.1 o o1 o2).2⟩, h.2⟩
theorem HH.fx {B : Int} {LC LM : List Nat} {L0 : List Int} {σ τ s s' : gM} (h : HH B σ τ) (f : FrX LC LM L0 σ τ s s') (a : ∀ k, k ∈ [29, 30, 31, 32, 33, 34, 35] → k ∉ LC) (b : ∀ k, k ∈ [21, 22, 23, 24, 25, 26, 27, 28] → k ∉ LM) (ht : σ 4 14 ≤ s 4 14) : HH B s s' := by
  obtain ⟨h1, h2, h3, h4⟩ := h
  unfold HH HO HD HR
  rw [f.1 29 (a _ (by decide)), f.1 30 (a _ (by decide)), f.1 31 (a _ (by decide)), f.1 32 (a _ (by decide)), f.1 33 (a _ (by decide)), f.1 34 (a _ (by decide)), f.1 35 (a _ (by decide)),
    f.2.1 21 (b _ (by decide)), f.2.1 22 (b _ (by decide)), f.2.1 23 (b _ (by decide)), f.2.1 24 (b _ (by decide)), f.2.1 25 (b _ (by decide)), f.2.1 26 (b _ (by decide)), f.2.1 27 (b _ (by decide)), f.2.1 28 (b _ (by decide)), f.2.2.2]
  refine ⟨fun o o1 o2 => ?_, h2, h3, h4⟩
  obtain ⟨k1, k2⟩ := h1 o o1 o2
  refine ⟨k1, k2.imp id fun ⟨x1, x2, x3, x4, x5, x6⟩ => ⟨x1, x2, x3, x4, x5, by omega⟩⟩
def RR (B : Int) (σ τ : gM) : Prop := MM B σ τ ∧ HH B σ τ
theorem RR.mono {B B' : Int} {σ τ : gM} (h : RR B σ τ) (hb : B ≤ B') : RR B' σ τ := ⟨h.1.mono hb, h.2.mono hb⟩
/-- a pair of calls keeps the relation and answers alike -/
def Pa (B : Int) (o o' : gO) : Prop := Sim o o' (fun s r s' r' => r' = r ∧ RR (B + 2000000) s s')
theorem pa_ret {B r : Int} {σ τ : gM} (h : RR B σ τ) : Pa B (some (σ, r)) (some (τ, r)) := sim_ret ⟨rfl, h.mono (by omega)⟩
theorem mo_of {T : Int} {P : Int → Prop} {o : gO} {s : gM} {r : Int} (h : Mo T P o) (e : o = some (s, r)) : T ≤ s 4 14 := (h s r e).1
/-- only cells, rules and the like have changed -/
theorem RR.r0 {B : Int} {LC LM : List Nat} {L0 : List Int} {σ τ s s' : gM} (h : RR B σ τ) (r : R0 B s s') (f : FrX LC LM L0 σ τ s s') (a : ∀ k, k ∈ [9, 10, 11, 12, 13, 14, 15, 16, 17, 18, 19, 20, 21, 23, 24, 25, 26, 27, 29, 30, 31, 32, 33, 34, 35] → k ∉ LC) (b : ∀ k, k ∈ [4, 5, 6, 7, 8, 9, 10, 11, 12, 13, 14, 15, 16, 17, 18, 19, 20, 21, 22, 23, 24, 25, 26, 27, 28] → k ∉ LM) (c : ∀ j : Int, j ∈ [(5 : Int), 6, 18, 19, 21, 29] → j ∉ L0) (ht : σ 4 14 ≤ s 4 14) : RR B s s' := by
  obtain ⟨⟨h0, hL, hP, hw, hr⟩, hH⟩ := h
  have sub : ∀ {l l' : List Nat}, (∀ k, k ∈ l → k ∈ l') → ∀ {m : List Nat}, (∀ k, k ∈ l' → k ∉ m) → ∀ k, k ∈ l → k ∉ m := fun x _ y k hk => y k (x k hk)
  refine ⟨⟨r, hL.fx f (sub (by decide) a) (sub (by decide) b) (fun j hj => c j (by revert j; decide)), hP.fx f (sub (by decide) a) (sub (by decide) b) (fun j hj => c j (by revert j; decide)) (by rw [f.2.2.1 18 (c 18 (by decide))]; exact Int.le_refl _), fun q q1 q2 => ?_, ?_⟩, hH.fx f (sub (by decide) a) (sub (by decide) b) ht⟩
  · rw [f.1 19 (a _ (by decide)), f.2.1 18 (b _ (by decide))]; exact hw q q1 q2
  · rw [f.1 20 (a _ (by decide)), f.1 21 (a _ (by decide)), f.2.1 20 (b _ (by decide)), f.2.2.1 29 (c _ (by decide))]; exact hr
theorem limit_P {B v : Int} {σ τ : gM} (h : RR B σ τ) : Pa B (F_Co_limit σ v) (F_Mo_limit τ v) := by
  unfold F_Co_limit F_Mo_limit
  by_cases c : 0 ≤ v ∧ v ≤ 60
  · rw [gk_e (within_y c), gk_e (in_y c), if_neg (by decide), if_neg (by decide), gv_p, gv_p, gp_p, gp_p, h.1.1.1.2.2.2.1]
    refine sim_ret ⟨rfl, RR.mono (h.r0 (LC := [5]) (LM := [0]) (L0 := [1]) ?_ ⟨fun k a => ?_, fun k a => ?_, fun j a => ?_, ?_⟩ (by decide) (by decide) (by decide) ?_) (by omega)⟩
    · obtain ⟨⟨a1, a2, a3, a4⟩, a5, a6, a7⟩ := h.1.1
      refine ⟨⟨a1, a2, a3, by rw [gU_e, gU_e], by rw [gU_e]; omega, by rw [gU_e]; omega⟩, a5, a6, a7⟩
    · simp only [List.mem_cons, List.not_mem_nil, or_false, not_or] at a; rw [gU_k a]
    · simp only [List.mem_cons, List.not_mem_nil, or_false, not_or] at a; rw [gU_k a]
    · simp only [List.mem_cons, List.not_mem_nil, or_false, not_or] at a; rw [gU_i a]
    · rw [gU_k (by decide)]
    · rw [gU_k (by decide)]; exact Int.le_refl _
  · rw [gk_e (within_n (by omega)), gk_e (in_n (by omega)), if_pos rfl, if_pos rfl]
    exact pa_ret h
theorem flip_P {B v1 v2 : Int} {σ τ : gM} (h : RR B σ τ) : Pa B (F_Co_flip σ v1 v2) (F_Mo_flip τ v1 v2) := by
  unfold F_Co_flip F_Mo_flip j_Co_flip_19 j_Mo_flip_21
  by_cases c : 0 ≤ v1 ∧ v1 ≤ 511
  · rw [gk_e (within_y c), gk_e (in_y c), if_neg (by decide), if_neg (by decide)]
    by_cases d : 0 ≤ v2 ∧ v2 ≤ 12
    · rw [gk_e (within_y d), gk_e (in_y d), if_neg (by decide), if_neg (by decide)]
      have hb := h.1.1.1.1 v1 (by omega) (by omega)
      rw [gi_p (by omega), gw_p (by omega), gi_p (by omega), gi_p (by omega), gw_p (by omega), gi_p (by omega), hb.1, gU_e, gU_e]
      have hs : 0 ≤ gShl 1 v2 ∧ gShl 1 v2 < 8192 := by
        obtain ⟨n, rfl⟩ : ∃ n : Nat, v2 = (n : Int) := ⟨v2.toNat, by omega⟩
        rw [gShl1 n (by omega)]
        have h1 : 2 ^ n ≤ 2 ^ 12 := Nat.pow_le_pow_right (by decide) (by omega)
        obtain ⟨m, hm⟩ : ∃ m, m = 2 ^ n := ⟨_, rfl⟩
        rw [← hm] at h1 ⊢
        omega
      have hx := gXor_ok hb.2.1 hb.2.2 hs.1 hs.2
      obtain ⟨r, f⟩ := bits_R (a := v1) h.1.1 hx.1 hx.2
      exact sim_ret ⟨rfl, RR.mono (h.r0 r f.x (by decide) (by decide) (by decide) (by rw [gU_k (by decide)]; exact Int.le_refl _)) (by omega)⟩
    · rw [gk_e (within_n (by omega)), gk_e (in_n (by omega)), if_pos rfl, if_pos rfl]
      exact pa_ret h
  · rw [gk_e (within_n (by omega)), gk_e (in_n (by omega)), if_pos rfl, if_pos rfl]
    exact pa_ret h
theorem refresh_P {B v1 v2 : Int} {σ τ : gM} (h : RR B σ τ) (hB : 0 ≤ B) : Pa B (F_Co_refresh σ v1 v2) (F_Mo_refresh τ v1 v2) := by
  unfold F_Co_refresh F_Mo_refresh j_Co_refresh_17 j_Mo_refresh_19
  by_cases c : 0 ≤ v1 ∧ v1 ≤ 3
  · rw [gk_e (within_y c), gk_e (in_y c), if_neg (by decide), if_neg (by decide)]
    by_cases d : 0 ≤ v2 ∧ v2 ≤ 15
    · rw [gk_e (within_y d), gk_e (in_y d), if_neg (by decide), if_neg (by decide), show v2 * 4 = 4 * v2 by omega]
      have hb := h.1.1.1.2.1 (4 * v2 + v1) (by omega) (by omega)
      rw [ga_p (by omega), ga_p (by omega), gi_p (by omega), gv_p, gw_p (by omega), ga_p (by omega), ga_p (by omega), gi_p (by omega), gv_p, ga_p (by omega), ga_p (by omega), gw_p (by omega), hb.1]
      obtain ⟨r, f⟩ := wear_up (B := B) (b := 4 * v2 + v1) (v := 0) (σ := σ) (τ := τ) h.1.1.1 (by omega) hB
      refine sim_ret ⟨rfl, RR.mono (h.r0 ?_ f.fr.x (by decide) (by decide) (by decide) (by rw [gU_k (by decide)]; exact Int.le_refl _)) (by omega)⟩
      exact ⟨r, h.1.1.2⟩
    · rw [gk_e (within_n (by omega)), gk_e (in_n (by omega)), if_pos rfl, if_pos rfl]
      exact pa_ret h
  · rw [gk_e (within_n (by omega)), gk_e (in_n (by omega)), if_pos rfl, if_pos rfl]
    exact pa_ret h
theorem cell_P {B v1 v2 : Int} {σ τ : gM} (h : RR B σ τ) : Pa B (F_Co_cell σ v1 v2) (F_Mo_cell τ v1 v2) := by
  unfold F_Co_cell F_Mo_cell j_Co_cell_18 j_Mo_cell_20 j_Co_cell_59 j_Mo_cell_56
  by_cases c : 0 ≤ v1 ∧ v1 ≤ 511
  · rw [gk_e (within_y c), gk_e (in_y c), if_neg (by decide), if_neg (by decide)]
    by_cases d : 0 ≤ v2 ∧ v2 ≤ 1
    · rw [gk_e (within_y d), gk_e (in_y d), if_neg (by decide), if_neg (by decide)]
      have hb := h.1.1.1.1 v1 (by omega) (by omega)
      rw [gi_p (by omega), gv_p, gi_p (by omega), gi_p (by omega), hb.1]
      by_cases e : v2 = 0
      · rw [if_pos e, if_pos e]; exact pa_ret h
      · rw [if_neg e, if_neg e, gk_e (righted_i hb.2.1 hb.2.2), gk_e (mend_i hb.2.1 hb.2.2)]
        rcases rC_ok hb.2.1 hb.2.2 with hr | hr
        · rw [if_pos hr, if_pos (show rC (τ 1 v1) < 0 by omega)]; exact pa_ret h
        · rw [if_neg (show ¬ rC (τ 1 v1) = -5 by omega), if_neg (show ¬ rC (τ 1 v1) < 0 by omega), gk_e (valueOf_i hr.1 hr.2), gk_e (value_i hr.1 hr.2)]
          exact pa_ret h
    · rw [gk_e (within_n (by omega)), gk_e (in_n (by omega)), if_pos rfl, if_pos rfl]
      exact pa_ret h
  · rw [gk_e (within_n (by omega)), gk_e (in_n (by omega)), if_pos rfl, if_pos rfl]
    exact pa_ret h
theorem open_P {B v1 : Int} {σ τ : gM} (h : RR B σ τ) : Pa B (F_Co_open σ v1) (F_Mo_open τ v1) := by
  unfold F_Co_open F_Mo_open j_Mo_open_19
  by_cases c : 0 ≤ v1 ∧ v1 ≤ 3
  · rw [gk_e (within_y c), gk_e (in_y c), if_neg (by decide), if_neg (by decide), gi_p (by omega), gi_p (by omega), h.1.1.1.2.2.1 v1 (by omega) (by omega)]
    exact pa_ret h
  · rw [gk_e (within_n (by omega)), gk_e (in_n (by omega)), if_pos rfl, if_pos rfl]
    exact pa_ret h
theorem line_P {B v1 v2 : Int} {σ τ : gM} (h : RR B σ τ) : Pa B (F_Co_line σ v1 v2) (F_Mo_line τ v1 v2) := by
  unfold F_Co_line F_Mo_line j_Co_line_17 j_Mo_line_19 j_Mo_line_52
  by_cases c : 0 ≤ v1 ∧ v1 ≤ 1
  · rw [gk_e (within_y c), gk_e (in_y c), if_neg (by decide), if_neg (by decide)]
    by_cases d : 0 ≤ v2 ∧ v2 ≤ 63
    · rw [gk_e (within_y d), gk_e (in_y d), if_neg (by decide), if_neg (by decide), show v1 * 64 = 64 * v1 by omega, ga_p (by omega), ga_p (by omega), gi_p (by omega)]
      rcases find_R h.1.2.1.1 c.1 (show v1 < 2 by omega) d.1 (show v2 < 64 by omega) with ⟨z1, z2, z3⟩ | ⟨l, l1, l2, l3, l4, l5⟩
      · rw [gk_e z2, if_pos rfl, z1]; exact pa_ret h
      · rw [gk_e l3, if_neg (show ¬ l = -4 by omega), gi_p l1, l4]
        rcases l5 with z | z
        · rw [z, if_pos rfl]; exact pa_ret h
        · rw [z, if_neg (by decide)]; exact pa_ret h
    · rw [gk_e (within_n (by omega)), gk_e (in_n (by omega)), if_pos rfl, if_pos rfl]
      exact pa_ret h
  · rw [gk_e (within_n (by omega)), gk_e (in_n (by omega)), if_pos rfl, if_pos rfl]
    exact pa_ret h
theorem page_P {B v1 v2 : Int} {σ τ : gM} (h : RR B σ τ) : Pa B (F_Co_page σ v1 v2) (F_Mo_page τ v1 v2) := by
  unfold F_Co_page F_Mo_page j_Co_page_17 j_Mo_page_19 j_Co_page_50 j_Mo_page_48
  by_cases c : 0 ≤ v1 ∧ v1 ≤ 31
  · rw [gk_e (within_y c), gk_e (in_y c), if_neg (by decide), if_neg (by decide)]
    by_cases d : 0 ≤ v2 ∧ v2 ≤ 1
    · rw [gk_e (within_y d), gk_e (in_y d), if_neg (show ¬ (1 : Int) = 0 by decide), if_neg (show ¬ (1 : Int) = 0 by decide), gi_p (by omega), gi_p (by omega), gi_p (by omega), gi_p (by omega), (h.1.2.2.1.2.1 v1 (by omega) (by omega)).1, (h.1.2.2.2.1 v1 (by omega) (by omega)).1]
      by_cases e : v2 = 0
      · rw [if_pos e, if_pos e]; exact pa_ret h
      · rw [if_neg e, if_neg e]
        by_cases e : τ 18 v1 = 0
        · rw [if_pos e, if_pos e]; exact pa_ret h
        · rw [if_neg e, if_neg e]; exact pa_ret h
    · rw [gk_e (within_n (by omega)), gk_e (in_n (by omega)), if_pos rfl, if_pos rfl]
      exact pa_ret h
  · rw [gk_e (within_n (by omega)), gk_e (in_n (by omega)), if_pos rfl, if_pos rfl]
    exact pa_ret h
theorem blame_P {B v1 : Int} {σ τ : gM} (h : RR B σ τ) : Pa B (F_Co_blame σ v1) (F_Mo_blame τ v1) := by
  unfold F_Co_blame F_Mo_blame j_Mo_blame_22
  by_cases c : 0 ≤ v1 ∧ v1 ≤ 7
  · rw [gk_e (within_y c), gk_e (in_y c), if_neg (by decide), if_neg (by decide), gi_p (by omega), gi_p (by omega), (h.1.1.2.2.1.2.2.1 v1 (by omega) (by omega)).1]
    exact pa_ret h
  · rw [gk_e (within_n (by omega)), gk_e (in_n (by omega)), if_pos rfl, if_pos rfl]
    exact pa_ret h
theorem lines_P {B v1 v2 : Int} {σ τ : gM} (h : RR B σ τ) (hB : B + 2000000 ≤ 1073741824) : Pa B (F_Co_lines σ v1 v2) (F_Mo_lines τ v1 v2) := by
  obtain ⟨s, r, s', r', e1, e2, rfl, q1, q2, f1, f2, f3, f4⟩ := lines_R (v1 := v1) (v2 := v2) h.1.1 h.1.2.1 (by omega)
  have ht := mo_of (mo_Co_lines (T := σ 4 14) (v1 := v1) (v2 := v2) (Int.le_refl _)) e1
  rw [Pa, e1, e2]
  obtain ⟨⟨h0, hL, hP, hw, hr⟩, hH⟩ := h
  have fx : FrX [3, 4, 6, 7, 8, 9, 10, 11, 12, 13, 14, 15, 16] [0, 1, 2, 3, 4, 5, 6, 7, 8, 9, 10, 11, 12, 29, 30] [4, 5, 6] σ τ s s' := by
    refine ⟨fun k a => ?_, fun k a => ?_, fun j a => ?_, f2⟩
    · simp only [List.mem_cons, List.not_mem_nil, or_false, not_or] at a
      obtain ⟨a1, a2, a3, a4, a5, a6, a7, a8, a9, b1, b2, b3, b4⟩ := a
      exact f1 k a1 a2 a3 a4 a5 a6 a7 a8 a9 b1 b2 b3 b4
    · simp only [List.mem_cons, List.not_mem_nil, or_false, not_or] at a
      exact f3 k (by omega) (by omega) (by omega) (by omega) (by omega) (by omega) (by omega)
    · simp only [List.mem_cons, List.not_mem_nil, or_false, not_or] at a
      exact f4 j a.1 a.2.1 a.2.2
  refine sim_ret ⟨rfl, ⟨q1.mono (by omega), q2.mono (by omega), (hP.fx fx (by decide) (by decide) (by decide) (by rw [fx.2.2.1 18 (by decide)]; exact Int.le_refl _)).mono (by omega), fun q q1 q2 => ?_, ?_⟩, (hH.fx fx (by decide) (by decide) ht).mono (by omega)⟩
  · rw [fx.1 19 (by decide), fx.2.1 18 (by decide)]; exact hw q q1 q2
  · rw [fx.1 20 (by decide), fx.1 21 (by decide), fx.2.1 20 (by decide), fx.2.2.1 29 (by decide)]; exact hr
theorem frames_P {B v : Int} {σ τ : gM} (h : RR B σ τ) (hB : B + 2000000 ≤ 1073741824) : Pa B (F_Co_frames σ v) (F_Mo_frames τ v) := by
  obtain ⟨s, r, s', r', e1, e2, rfl, q1, q2⟩ := frames_R (v := v) h.1 (by omega)
  have ht := mo_of (mo_Co_frames (T := σ 4 14) (v1 := v) (Int.le_refl _)) e1
  rw [Pa, e1, e2]
  exact sim_ret ⟨rfl, q1.mono (by omega), (h.2.fx q2 (by decide) (by decide) ht).mono (by omega)⟩
