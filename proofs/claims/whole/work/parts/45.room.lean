/-! free rooms told; where an object may be made -/
theorem frooms_R {B p p2 : Int} {σ : gM} {k1 : gM → Int → gO} {K1 K2 : gM → gO} (hp : 0 ≤ p) :
    ∀ (n n' : Nat) (x y i : Int) (s' : gM), HH B σ s' → 0 ≤ x → x ≤ 1024 → Cln s' x → F_He_freeStart σ x = some (σ, y) → 0 ≤ i → i ≤ 41 → i ≤ p → (y = 1024 ∨ cA s' y + i ≤ 40) → 41 - i < n → 41 - i < n' →
      ∃ w t', gl2 (l_He_freeRoom_8 k1 p) n σ y i = k1 σ w ∧ ((w = 1024 ∧ gl2 (l_Mo_room_20 K1 K2 p p2) n' s' x i = K2 t') ∨ ((0 ≤ w ∧ w < 1024) ∧ ∃ z, F_He_freeEnd σ w = some (σ, z) ∧ (w < z ∧ z ≤ 1024) ∧ gl2 (l_Mo_room_20 K1 K2 p p2) n' s' x i = K1 t' ∧ t' 0 44 = w ∧ t' 0 45 = z - w)) ∧ Fz s' t' := by
  intro n
  induction n with
  | zero => intro n' x y i s' _ _ _ _ _ _ i2 _ _ f1; omega
  | succ n ihn =>
    intro n' x y i s' h x1 x2 hc hy i1 i2 i3 hi f1 f2
    cases n' with
    | zero => clear h hc hy hi; omega
    | succ n' =>
    have ih := ihn n'
    rw [gl2_s, gl2_s]
    generalize gl2 (l_Mo_room_20 K1 K2 p p2) n' = rec' at ih ⊢
    generalize gl2 (l_He_freeRoom_8 k1 p) n = rec at ih ⊢
    obtain ⟨y0, z, e1, e2, e3, xy, cy, r, hd⟩ := start_R h x1 x2 hc
    have hyy : y0 = y := by rw [hy] at e1; exact (Prod.mk.inj (Option.some.inj e1)).2.symm
    subst hyy
    have ca := cA_le s' y0
    unfold l_He_freeRoom_8 l_Mo_room_20
    by_cases d : y0 < z
    · have hyl : y0 < 1024 := by have := r.1; omega
      have hi' := hi.resolve_left (by omega)
      obtain ⟨cz, z1, z2⟩ := r.cln h cy
      have f := Fz.two s' y0 (z - y0)
      have w44 : gU (gU s' 0 44 y0) 0 45 (z - y0) 0 44 = y0 := by rw [gU_i (by decide), gU_e]
      have w45 : gU (gU s' 0 44 y0) 0 45 (z - y0) 0 45 = z - y0 := gU_e
      have h2 := cA_mono (τ := s') (x := y0) (y := z) (by omega)
      have hH := h.z f
      have hz : z = 1024 ∨ ∃ o, (0 ≤ o ∧ o < 40) ∧ gU (gU s' 0 44 y0) 0 45 (z - y0) 21 o = 1 ∧ gU (gU s' 0 44 y0) 0 45 (z - y0) 22 o = z := r.2.2.2.imp id fun ⟨o, a, b, c⟩ => ⟨o, a, by rw [f.1 21 (by decide)]; exact b, by rw [f.1 22 (by decide)]; exact c⟩
      rw [if_pos (show x < 1024 by omega), gk_e e2, if_pos d, if_neg (show ¬ (1 : Int) = 0 by decide)]
      by_cases k : i < p
      · obtain ⟨y1, z', q1, q2, q3, q4, q5, q6, q7⟩ := start_R hH (by omega) z1 (f.cln cz)
        have hn : y1 = 1024 ∨ cA (gU (gU s' 0 44 y0) 0 45 (z - y0)) y1 + (i + 1) ≤ 40 := by
          rcases hz with c | ⟨o, o1, o2, o3⟩
          · left; have := q6.1; omega
          · right
            have := q7 o o1.1 o1.2 o2 o3
            have := f.cA z
            omega
        obtain ⟨w, t', g1, g2, g3⟩ := ih z y1 (i + 1) _ hH (by omega) z1 (f.cln cz) q1 (by omega) (by omega) (by omega) hn (by omega) (by omega)
        rw [if_pos k, if_neg (show ¬ 40 < i by omega), if_pos hyl, gk_e e3, gk_e q1, ga_p (by omega), if_neg (show ¬ i = p by omega), w44, w45, ga_p (by omega), ga_p (by omega), show y0 + (z - y0) = z by omega]
        exact ⟨w, t', g1, g2, f.trans g3⟩
      · rw [if_neg k, if_pos (show i = p by omega)]
        exact ⟨y0, _, rfl, Or.inr ⟨⟨by omega, hyl⟩, z, e3, ⟨d, z1⟩, rfl, w44, w45⟩, f⟩
    · have y1024 : y0 = 1024 := by have := r.1; omega
      have eC : (if i < p then (if 40 < i then k1 σ y0 else if y0 < 1024 then gk (F_He_freeEnd σ y0) (fun s1 a2 => gk (F_He_freeStart s1 a2) fun s3 a4 => ga (i + 1) fun a5 => rec s3 a4 a5) else k1 σ y0) else k1 σ y0) = k1 σ y0 := by
        split
        · split
          · rfl
          · rw [if_neg (by omega)]
        · rfl
      rw [eC]
      by_cases c : x < 1024
      · rw [if_pos c, gk_e e2, if_neg d, if_pos rfl]
        exact ⟨y0, _, rfl, Or.inl ⟨y1024, rfl⟩, Fz.two _ _ _⟩
      · rw [if_neg c]
        exact ⟨y0, s', rfl, Or.inl ⟨y1024, rfl⟩, Fz.refl _⟩
theorem RR.z {B : Int} {σ τ s' : gM} (h : RR B σ τ) (f : Fz τ s') : RR B σ s' := ⟨h.1.fx f.x (by decide) (by decide) (by decide), h.2.z f⟩
theorem HH.cln0 {B : Int} {σ τ : gM} (h : HH B σ τ) : Cln τ 0 := Cln.zero τ fun p p1 p2 p3 => ((h.1 p p1 p2).ex.2.2 p3).2.2.1
theorem room_P {B v1 v2 : Int} {σ τ : gM} (h : RR B σ τ) : Pa B (F_Co_room σ v1 v2) (F_Mo_room τ v1 v2) := by
  unfold F_Co_room F_Mo_room j_Co_room_12 j_Mo_room_13
  by_cases c : v1 < 0
  · rw [if_pos c, if_pos c]; exact pa_ret h
  rw [if_neg c, if_neg c]
  by_cases d : 0 ≤ v2 ∧ v2 ≤ 1
  · rw [gk_e (within_y d), gk_e (in_y d), if_neg (show ¬ (1 : Int) = 0 by decide), if_neg (show ¬ (1 : Int) = 0 by decide)]
    obtain ⟨y, z, e1, e2, e3, xy, cy, r, hd⟩ := start_R h.2 (Int.le_refl 0) (by decide) h.2.cln0
    obtain ⟨w, t', g1, g2, g3⟩ := frooms_R (p := v1) (p2 := v2) (k1 := fun s4 b3 => j_He_freeRoom_42 s4 b3) (K1 := fun s3 => if v2 = 0 then (j_Mo_room_56 s3 (s3 0 44)) else (j_Mo_room_56 s3 (s3 0 45))) (K2 := fun s4 => j_Mo_room_73 s4) (by omega) 200 200 0 y 0 τ h.2 (by omega) (by omega) h.2.cln0 e1 (by omega) (by omega) (by omega) (Or.inr (by have := cA_le τ y; omega)) (by omega) (by omega)
    have e4 : F_He_freeRoom σ v1 = j_He_freeRoom_42 σ w := by
      unfold F_He_freeRoom
      rw [gk_e e1]
      exact g1
    rw [e4]
    unfold j_He_freeRoom_42 j_He_freeRoom_55
    rcases g2 with ⟨q1, q2⟩ | ⟨q1, z', q2, q3, q4, q5, q6⟩
    · rw [if_neg (by omega), gk_s, if_pos rfl, q2]
      exact sim_ret ⟨rfl, (h.z g3).mono (by omega)⟩
    · rw [if_pos q1.2, gk_s, if_neg (show ¬ w = -4 by omega), q4]
      unfold j_Co_room_50 j_Mo_room_56
      by_cases e : v2 = 0
      · rw [if_pos e, if_pos e, q5]
        exact sim_ret ⟨rfl, (h.z g3).mono (by omega)⟩
      · rw [if_neg e, if_neg e, gk_e q2, ga_p (by omega), q6]
        exact sim_ret ⟨rfl, (h.z g3).mono (by omega)⟩
  · rw [gk_e (within_n (by omega)), gk_e (in_n (by omega)), if_pos rfl, if_pos rfl]
    exact pa_ret h
theorem room_R {B n : Int} {σ τ : gM} (h : RR B σ τ) (hn : 1 ≤ n) (hn2 : n ≤ 24) : ∃ r t', F_He_roomFor σ n = some (σ, r) ∧ F_Mo_roomFor_ τ n = some (t', r) ∧ Fz τ t' ∧ (r = -4 ∨ Fit τ (rnd n) r) := by
  obtain ⟨y, z, e1, e2, e3, xy, cy, r, hd⟩ := start_R h.2 (Int.le_refl 0) (by decide) h.2.cln0
  unfold F_He_roomFor F_Mo_roomFor_
  rw [gk_e (rounded_C (by omega) hn2), gk_e (rounded_M (by omega) hn2), gk_e e1]
  exact rooms_R (fun _ _ => rfl) (fun _ _ => rfl) (fun _ _ => rfl) (rnd_ok hn hn2).2.1 200 200 0 y 0 (-4) 0 τ h.2 ⟨h.1.1.2.1.2.2.2.1, by have := h.1.1.2.1.2.2.2.2; omega⟩ (by omega) (by omega) h.2.cln0 e1 (by omega) (by omega) (Or.inr (by have := cA_le τ y; omega)) (Or.inl rfl) (by omega) (by omega)
theorem number_R {B : Int} {σ τ : gM} (h : HH B σ τ) : ∃ a, F_He_freeNumber σ = some (σ, a) ∧ F_Mo_freeNumber τ = some (τ, a) ∧ (a = -4 ∨ ((0 ≤ a ∧ a < 40) ∧ τ 21 a = 0)) := by
  unfold F_He_freeNumber F_Mo_freeNumber
  refine to2_gl1 (lo := 0) (hi := 40) (R := fun o o' => ∃ a, o = some (σ, a) ∧ o' = some (τ, a) ∧ (a = -4 ∨ ((0 ≤ a ∧ a < 40) ∧ τ 21 a = 0))) (fun j s s' => s = σ ∧ s' = τ) ?_ ?_ 200 200 0 σ τ (by omega) (by omega) (by omega) (by omega) ⟨rfl, rfl⟩
  · rintro rec rec' j s s' j1 j2 ⟨e, e'⟩ ih
    unfold l_He_freeNumber_2 l_Mo_freeNumber_2
    have hx := (h.1 j j1 j2).ex
    rw [e, e', if_pos j2, if_pos j2, gi_p (by omega), gi_p (by omega)]
    by_cases c : τ 21 j = 0
    · have : σ 29 j = -4 := Decidable.byContradiction fun z => by have := hx.1.mp z; omega
      rw [if_pos c, if_pos this]
      exact ⟨j, rfl, rfl, Or.inr ⟨⟨j1, j2⟩, c⟩⟩
    · rw [if_neg c, if_neg (hx.1.mpr (hx.2.1.mp c)), ga_p (by omega), ga_p (by omega)]
      exact ih σ τ ⟨rfl, rfl⟩
  · rintro rec rec' s s' ⟨e, e'⟩
    unfold l_He_freeNumber_2 l_Mo_freeNumber_2
    rw [e, e', if_neg (by decide), if_neg (by decide)]
    exact ⟨-4, rfl, rfl, Or.inl rfl⟩
