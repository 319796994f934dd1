/-! gathering: the row, what follows -/
theorem ld_R {B p a : Int} {σ τ : gM} (h : MM B σ τ) (hp : 0 ≤ p) (hp2 : p < 2) (ha : 0 ≤ a) (ha2 : a < 1024) (hB : B + 400 ≤ 1073741824) :
    ∃ x y s r s', F_Me_touch σ a = some (x, y) ∧ F_Ca_ask x p y = some (s, r) ∧ F_Mo_loadByte τ p a = some (s', r) ∧ MM (B + 400) s s' ∧ FrX LPC LPM LP0 σ τ s s' ∧ (r = -5 ∨ (0 ≤ r ∧ r ≤ 255)) ∧ σ 4 14 ≤ s 4 14 := by
  have key := sim_ld (p := p) (a := a) (K := fun s r => some (s, r)) (K' := fun s' r => some (s', r)) (Q := fun s r s' r' => r' = r ∧ MM (B + 400) s s' ∧ FrX LPC LPM LP0 σ τ s s' ∧ (r = -5 ∨ (0 ≤ r ∧ r ≤ 255))) h hp hp2 ha ha2 hB (fun s r s' hm hf hr => sim_ret ⟨rfl, hm, hf, hr⟩)
  obtain ⟨s, r, s', r', e1, e2, rfl, q1, q2, q3⟩ := key
  cases ho : F_Me_touch σ a with
  | none => rw [ho] at e1; cases e1
  | some q =>
    obtain ⟨x, y⟩ := q
    rw [ho, gk_s] at e1
    cases hc : F_Ca_ask x p y with
    | none => rw [hc] at e1; cases e1
    | some w =>
      rw [hc] at e1
      cases hd : F_Mo_loadByte τ p a with
      | none => rw [hd] at e2; cases e2
      | some z =>
        rw [hd] at e2
        have a1 : w = (s, r') := by cases e1; rfl
        have a2 : z = (s', r') := by cases e2; rfl
        subst a1
        subst a2
        exact ⟨x, y, s, r', s', rfl, hc, rfl, q1, q2, q3, mo_of (mo_Ca_ask (T := σ 4 14) (v1 := p) (v2 := y) (mo_of (mo_Me_touch (T := σ 4 14) (v1 := a) (Int.le_refl _)) ho)) hc⟩
theorem sim_wh1 {hi : Int} {body body' : (gM → Int → gO) → gM → Int → gO} {Q : gM → Int → gM → Int → Prop} (I : Int → gM → gM → Prop)
    (hstep : ∀ rec rec' j s s', j ≤ hi → I j s s' → (∀ t t', j + 1 ≤ hi → I (j + 1) t t' → Sim (rec t (j + 1)) (rec' t' (j + 1)) Q) → Sim (body rec s j) (body' rec' s' j) Q) :
    ∀ (n n' : Nat) (j : Int) (s s' : gM), j ≤ hi → hi - j < n → hi - j < n' → I j s s' → Sim (gl1 body n s j) (gl1 body' n' s' j) Q
  | 0, _, j, s, s', h2, h3, h4, hI => by omega
  | n + 1, 0, j, s, s', h2, h3, h4, hI => by omega
  | n + 1, n' + 1, j, s, s', h2, h3, h4, hI => hstep _ _ j s s' h2 hI fun t t' h hI' => sim_wh1 I hstep n n' (j + 1) t t' h (by omega) (by omega) hI'
/-- the row of a gathering -/
def RW (σ τ : gM) : Prop := (σ 28 9 = τ 0 46 ∧ τ 0 46 = gcnt (τ 33) 40) ∧ (∀ i, 0 ≤ i → i < τ 0 46 → σ 36 i = τ 32 i ∧ (0 ≤ τ 32 i ∧ τ 32 i < 40) ∧ τ 33 (τ 32 i) = 1) ∧ ∀ o, 0 ≤ o → o < 40 → σ 37 o = τ 33 o ∧ (τ 33 o = 0 ∨ (τ 33 o = 1 ∧ τ 21 o = 1))
theorem RW.le {σ τ : gM} (h : RW σ τ) : 0 ≤ τ 0 46 ∧ τ 0 46 ≤ 40 := by
  have := gcnt_le (f := τ 33) 40 (fun b b1 b2 => by have := (h.2.2 b b1 b2).2; omega)
  have := h.1.2
  omega
theorem RW.fx {LC LM : List Nat} {L0 : List Int} {σ τ s s' : gM} (h : RW σ τ) (f : FrX LC LM L0 σ τ s s') (a : ∀ k, k ∈ [28, 36, 37] → k ∉ LC) (b : ∀ k, k ∈ [21, 32, 33] → k ∉ LM) (c : ∀ j : Int, j ∈ [(46 : Int)] → j ∉ L0) : RW s s' := by
  unfold RW
  rw [f.1 28 (a _ (by decide)), f.1 36 (a _ (by decide)), f.1 37 (a _ (by decide)), f.2.1 21 (b _ (by decide)), f.2.1 32 (b _ (by decide)), f.2.1 33 (b _ (by decide)), f.2.2.1 46 (c _ (by decide))]
  exact h
theorem put_R {σ τ : gM} {o : Int} (h : RW σ τ) (ho : 0 ≤ o ∧ o < 40) (ht : τ 21 o = 1) (hc : F_He_has σ o = some (σ, 1)) :
    ∃ s s', F_He_putBehind σ o = some (s, 0) ∧ F_Mo_putBehind τ o = some (s', 0) ∧ RW s s' ∧ FrX [28, 36, 37] [0, 32, 33] [46] σ τ s s' ∧ (∀ p, τ 33 p = 1 → s' 33 p = 1) ∧ s' 33 o = 1 ∧ τ 0 46 ≤ s' 0 46 ∧ (τ 33 o = 0 → τ 0 46 < s' 0 46) := by
  have hle := h.le
  obtain ⟨⟨h1, h2⟩, h3, h4⟩ := id h
  have hx := h4 o ho.1 ho.2
  unfold F_He_putBehind F_Mo_putBehind j_He_putBehind_17 j_Mo_putBehind_36
  rw [gk_e hc, if_neg (show ¬ (1 : Int) = 0 by decide), gi_p ho, gi_p ho, hx.1]
  by_cases c : τ 33 o = 0
  · have hlt : τ 0 46 < 40 := by
      rw [h2]
      exact gcnt_lt 40 ho.1 ho.2 c (fun b b1 b2 => by have := (h4 b b1 b2).2; omega)
    have a1 : gU σ 37 o 1 28 9 = σ 28 9 := by rw [gU_k (by decide)]
    have a2 : gU (gU σ 37 o 1) 36 (σ 28 9) o 28 9 = σ 28 9 := by rw [gU_k (by decide), gU_k (by decide)]
    have b1 : gU τ 33 o 1 0 46 = τ 0 46 := by rw [gU_k (by decide)]
    have b2 : gU (gU τ 33 o 1) 32 (τ 0 46) o 0 46 = τ 0 46 := by rw [gU_k (by decide), gU_k (by decide)]
    rw [if_pos c, if_pos c, gwb_p ⟨ho, by decide⟩, a1, gw_p (by omega), a2, ga_p (by omega), gp_p, gwb_p ⟨ho, by decide⟩, b1, gw_p (by omega), b2, ga_p (by omega), gp_p]
    have s28 : gU (gU (gU σ 37 o 1) 36 (σ 28 9) o) 28 9 (σ 28 9 + 1) 28 9 = σ 28 9 + 1 := gU_e
    have s36 : gU (gU (gU σ 37 o 1) 36 (σ 28 9) o) 28 9 (σ 28 9 + 1) 36 = gU σ 36 (σ 28 9) o 36 := by rw [gU_k (by decide)]; funext x; rw [gU_at, gU_at, gU_k (by decide)]
    have s37 : gU (gU (gU σ 37 o 1) 36 (σ 28 9) o) 28 9 (σ 28 9 + 1) 37 = gU σ 37 o 1 37 := by rw [gU_k (by decide), gU_k (by decide)]
    have t46 : gU (gU (gU τ 33 o 1) 32 (τ 0 46) o) 0 46 (τ 0 46 + 1) 0 46 = τ 0 46 + 1 := gU_e
    have t32 : gU (gU (gU τ 33 o 1) 32 (τ 0 46) o) 0 46 (τ 0 46 + 1) 32 = gU τ 32 (τ 0 46) o 32 := by rw [gU_k (by decide)]; funext x; rw [gU_at, gU_at, gU_k (by decide)]
    have t33 : gU (gU (gU τ 33 o 1) 32 (τ 0 46) o) 0 46 (τ 0 46 + 1) 33 = gU τ 33 o 1 33 := by rw [gU_k (by decide), gU_k (by decide)]
    have t21 : gU (gU (gU τ 33 o 1) 32 (τ 0 46) o) 0 46 (τ 0 46 + 1) 21 = τ 21 := by rw [gU_k (by decide), gU_k (by decide), gU_k (by decide)]
    have f1 : ∀ k, k ≠ 28 → k ≠ 36 → k ≠ 37 → gU (gU (gU σ 37 o 1) 36 (σ 28 9) o) 28 9 (σ 28 9 + 1) k = σ k := fun k a b c => by rw [gU_k a, gU_k b, gU_k c]
    have f2 : ∀ k, k ≠ 0 → k ≠ 32 → k ≠ 33 → gU (gU (gU τ 33 o 1) 32 (τ 0 46) o) 0 46 (τ 0 46 + 1) k = τ k := fun k a b c => by rw [gU_k a, gU_k b, gU_k c]
    have f3 : ∀ j, j ≠ 46 → gU (gU (gU τ 33 o 1) 32 (τ 0 46) o) 0 46 (τ 0 46 + 1) 0 j = τ 0 j := fun j a => by rw [gU_i a, gU_k (by decide), gU_k (by decide)]
    generalize gU (gU (gU σ 37 o 1) 36 (σ 28 9) o) 28 9 (σ 28 9 + 1) = s at *
    generalize gU (gU (gU τ 33 o 1) 32 (τ 0 46) o) 0 46 (τ 0 46 + 1) = s' at *
    refine ⟨s, s', rfl, rfl, ⟨⟨by omega, ?_⟩, fun i i1 i2 => ?_, fun p p1 p2 => ?_⟩, ⟨fun k a => ?_, fun k a => ?_, fun j a => ?_, by rw [f1 4 (by decide) (by decide) (by decide)]⟩, fun p hp => ?_, by rw [t33, gU_e], by omega, fun _ => by omega⟩
    · rw [t33, t46, gcnt_upd (f := τ 33) (g := gU τ 33 o 1 33) (c := o) 40 ho.1 ho.2 (fun b hb => gU_i hb), gU_e, c]
      omega
    · rw [s36, t32, t33, h1, gU_at, gU_at]
      by_cases d : i = τ 0 46
      · rw [if_pos d, if_pos d, gU_e]; exact ⟨rfl, ho, rfl⟩
      · rw [if_neg d, if_neg d, gU_at]
        have := h3 i i1 (by omega)
        refine ⟨this.1, this.2.1, ?_⟩
        split
        · rfl
        · exact this.2.2
    · rw [s37, t33, t21, gU_at, gU_at]
      by_cases d : p = o
      · rw [if_pos d, if_pos d, d]; exact ⟨rfl, Or.inr ⟨rfl, ht⟩⟩
      · rw [if_neg d, if_neg d]; exact h4 p p1 p2
    · simp only [List.mem_cons, List.not_mem_nil, or_false, not_or] at a
      exact f1 k a.1 a.2.1 a.2.2
    · simp only [List.mem_cons, List.not_mem_nil, or_false, not_or] at a
      exact f2 k a.1 a.2.1 a.2.2
    · simp only [List.mem_cons, List.not_mem_nil, or_false, not_or] at a
      exact f3 j a
    · rw [t33, gU_at]
      split
      · rfl
      · exact hp
  · rw [if_neg c, if_neg c]
    exact ⟨σ, τ, rfl, rfl, h, FrX.refl _ _ _ _ _, fun p hp => hp, by omega, Int.le_refl _, fun z => absurd z c⟩
theorem put_no {σ : gM} {o : Int} (hc : F_He_has σ o = some (σ, 0)) : F_He_putBehind σ o = some (σ, 0) := by
  unfold F_He_putBehind j_He_putBehind_17
  rw [gk_e hc, if_pos rfl]
def LGC : List Nat := [3, 4, 6, 7, 8, 9, 10, 11, 12, 13, 14, 15, 16, 17, 18, 19, 20, 21, 23, 24, 25, 26, 27, 28, 36, 37]
def LGM : List Nat := [0, 1, 2, 3, 4, 5, 6, 7, 8, 9, 10, 11, 12, 13, 14, 15, 16, 17, 18, 19, 20, 29, 30, 32, 33]
def LG0 : List Int := [4, 18, 21, 29, 46]
theorem RR.fp {B : Int} {σ τ s s' : gM} (h : RR B σ τ) (f : FrX [28, 36, 37] [0, 32, 33] [46] σ τ s s') : RR B s s' :=
  ⟨h.1.fx f (by decide) (by decide) (by decide), h.2.fx f (by decide) (by decide) (by rw [f.1 4 (by decide)]; exact Int.le_refl _)⟩
/-- what the row's objects hold, put behind -/
theorem follow_R {B v : Int} {σ τ : gM} (h : RR B σ τ) (w : RW σ τ) (hv : 0 ≤ v) (hv2 : v ≤ τ 0 46) (hB : B + 400000 ≤ 1073741824) :
    Sim (F_He_follow σ v) (F_Mo_follow τ v) (fun s r s' _ => RR (B + 9600 * (s' 0 46 - v)) s s' ∧ RW s s' ∧ r = s' 0 46 ∧ FrX LGC LGM LG0 σ τ s s' ∧ (∀ p, τ 33 p = 1 → s' 33 p = 1) ∧ τ 0 46 ≤ s' 0 46) := by
  have w46 := w.le
  unfold F_He_follow F_Mo_follow
  refine sim_wh1 (hi := 40) (fun j s s' => (v ≤ j ∧ j ≤ s' 0 46) ∧ RR (B + 9600 * (j - v)) s s' ∧ RW s s' ∧ FrX LGC LGM LG0 σ τ s s' ∧ (∀ p, τ 33 p = 1 → s' 33 p = 1) ∧ τ 0 46 ≤ s' 0 46) ?_ 200 200 v σ τ (by omega) (by omega) (by omega) ⟨⟨Int.le_refl _, hv2⟩, h.mono (by omega), w, FrX.refl _ _ _ _ _, fun p hp => hp, Int.le_refl _⟩
  rintro rec rec' j s s' jh ⟨i1, i2, i3, i4, i5, i6⟩ ih
  have s46 := i3.le
  unfold l_He_follow_2 l_Mo_follow_2 j_He_follow_93
  rw [i3.1.1]
  by_cases c : j < s' 0 46
  · have hrow := i3.2.1 j (by omega) c
    have hth := ((i3.2.2 _ hrow.2.1.1 hrow.2.1.2).2.resolve_left (by omega)).2
    have ho := (i2.2.1 _ hrow.2.1.1 hrow.2.1.2).ex.2.2 hth
    rw [if_pos c, if_pos (show j < 40 by omega), if_pos c, gi_p (by omega), gi_p (by omega), gv_p, gv_p, hrow.1]
    generalize s' 32 j = o at *
    have hr := rnd_ok ho.2.2.2.2.1 ho.2.2.2.2.2.1
    obtain ⟨n, hn⟩ : ∃ n, n = s' 23 o := ⟨_, rfl⟩
    obtain ⟨A, hA⟩ : ∃ A, A = s' 22 o := ⟨_, rfl⟩
    refine sim_gl1 (lo := 0) (hi := n) (fun f t t' => RR (B + 9600 * (j - v) + 400 * f) t t' ∧ RW t t' ∧ FrX LGC LGM LG0 s s' t t' ∧ (∀ p, s' 33 p = 1 → t' 33 p = 1) ∧ s' 0 46 ≤ t' 0 46) ?_ ?_ 200 200 0 s s' (by omega) (by omega) (by omega) (by omega) ⟨i2.mono (by omega), i3, FrX.refl _ _ _ _ _, fun p hp => hp, Int.le_refl _⟩
    · rintro r r' f t t' f1 f2 ⟨k1, k2, k3, k4, k5⟩ ih2
      have e30 : t 30 o = n := by rw [k3.1 30 (by decide), ho.2.1, hn]
      have e29 : t 29 o = A := by rw [k3.1 29 (by decide), ho.1, hA]
      have e23 : t' 23 o = n := by rw [k3.2.1 23 (by decide), hn]
      have e22 : t' 22 o = A := by rw [k3.2.1 22 (by decide), hA]
      unfold l_He_follow_26 l_Mo_follow_20 j_He_follow_81 j_Mo_follow_77
      obtain ⟨x, y, u, q, u', d1, d2, d3, d4, d5, d6, d7⟩ := ld_R (p := 0) (a := A + f) k1.1 (by decide) (by decide) (by omega) (by omega) (by omega)
      have R1 : RR (B + 9600 * (j - v) + 400 * f + 400) u u' := ⟨d4, (k1.2.fx d5 (by decide) (by decide) d7).mono (by omega)⟩
      have W1 : RW u u' := k2.fx d5 (by decide) (by decide) (by decide)
      have u33 : u' 33 = t' 33 := d5.2.1 33 (by decide)
      have u46 : u' 0 46 = t' 0 46 := d5.2.2.1 46 (by decide)
      have F1 : FrX LGC LGM LG0 s s' u u' := k3.trans (d5.mono (by decide) (by decide) (by decide))
      rw [gi_p hrow.2.1, gi_p hrow.2.1, e30, e23, if_pos f2, if_pos f2, gi_p hrow.2.1, gi_p hrow.2.1, e29, e22, ga_p (by omega), ga_p (by omega), gk_e d1, gk_e d2, gk_e d3]
      by_cases b : q < 128
      · rw [if_pos b, if_neg (show ¬ 127 < q by omega), ga_p (by omega), ga_p (by omega)]
        exact ih2 u u' ⟨R1.mono (by omega), W1, F1, fun p hp => by rw [u33]; exact k4 p hp, by omega⟩
      · rw [if_neg b, if_pos (show 127 < q by omega), ga_p (x := q - 128) (by omega), ga_p (x := q - 128) (by omega)]
        rcases has_R (o := q - 128) R1.2.1 with ⟨a1, a2, a3, a4⟩ | ⟨a1, a3, a4⟩
        · obtain ⟨z, z', g1, g2, g3, g4, g5, g6, g7, g8⟩ := put_R W1 a1 a2 a3
          rw [gk_e g1, gk_e a4, if_neg (show ¬ (1 : Int) = 0 by decide), ga_p (x := q - 128) (by omega), gk_e g2, ga_p (by omega), ga_p (by omega)]
          exact ih2 z z' ⟨(R1.fp g4).mono (by omega), g3, F1.trans (g4.mono (by decide) (by decide) (by decide)), fun p hp => g5 p (by rw [u33]; exact k4 p hp), by omega⟩
        · rw [gk_e (put_no a3), gk_e a4, if_pos rfl, ga_p (by omega), ga_p (by omega)]
          exact ih2 u u' ⟨R1.mono (by omega), W1, F1, fun p hp => by rw [u33]; exact k4 p hp, by omega⟩
    · rintro r r' t t' ⟨k1, k2, k3, k4, k5⟩
      have e30 : t 30 o = n := by rw [k3.1 30 (by decide), ho.2.1, hn]
      have e23 : t' 23 o = n := by rw [k3.2.1 23 (by decide), hn]
      unfold l_He_follow_26 l_Mo_follow_20
      rw [gi_p hrow.2.1, e30, if_neg (show ¬ n < n by omega), gi_p hrow.2.1, e23, if_neg (show ¬ n < n by omega)]
      dsimp only
      rw [ga_p (by omega), ga_p (by omega)]
      exact ih t t' (by omega) ⟨by omega, k1.mono (by omega), k2, i4.trans k3, fun p hp => k4 p (i5 p hp), by omega⟩
  · rw [if_neg c, if_neg c]
    have e : j = s' 0 46 := by omega
    exact sim_ret ⟨by rw [← e]; exact i2, i3, e, i4, i5, i6⟩
