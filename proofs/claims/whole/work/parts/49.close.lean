/-! gathering: closing up -/
theorem mv_R {B a v : Int} {u u' : gM} (h : RR B u u') (ha : 0 ≤ a) (ha2 : a < 1024) (hv : 0 ≤ v) (hv2 : v ≤ 255) (hB : B + 1000 ≤ 1073741824) :
    ∃ x y s r z s' r', F_Me_touch u a = some (x, y) ∧ F_Ca_change x 0 y v = some (s, r) ∧ F_Le_add s 15 1 = some (z, 0) ∧ F_Mo_saveByte (gU u' 30 15 (u' 30 15 + 1)) 0 a v = some (s', r') ∧ RR (B + 401) z s' ∧ FrX LPC LPM LP0 u u' z s' ∧ (0 ≤ u' 30 15 ∧ u' 30 15 ≤ B) := by
  have R2 := h.cnt (c := 15) (n := 1) (by decide) (by decide) (by decide) (by decide) (by decide) (by decide)
  have F2 : FrX LPC LPM LP0 u u' (gU u 4 15 (u 4 15 + 1)) (gU u' 30 15 (u' 30 15 + 1)) := (count_R (c := 15) (n := 1) h.1.1 (by decide) (by decide) (by decide) (by decide) (by decide) (by decide)).2.x.mono (by decide) (by decide) (by decide)
  obtain ⟨x1, y, s1, r, s', r', d1, d2, d3, d4, d5, d6⟩ := sv_R (p := 0) (a := a) (v := v) R2.1 (by decide) (by decide) ha ha2 hv hv2 (by omega)
  have hc := h.1.1.2.2.2.1 15 (by decide) (by decide) (by decide) (by decide) (by decide)
  have c1 : F_Me_touch (up (u 4 15 + 1) u) a = upO (u 4 15 + 1) (F_Me_touch u a) := cz_Me_touch
  have c0 : F_Me_touch (up (u 4 15) u) a = upO (u 4 15) (F_Me_touch u a) := cz_Me_touch
  have i0 : up (u 4 15) u = u := gU_id rfl
  rw [i0] at c0
  cases hx : F_Me_touch u a with
  | none => rw [hx] at c1; exact absurd (d1.symm.trans c1) (fun z => by cases z)
  | some q =>
    obtain ⟨x, y2⟩ := q
    rw [hx] at c1 c0
    have e1 : some (x1, y) = some (up (u 4 15 + 1) x, y2) := d1.symm.trans c1
    have e0 : some (x, y2) = some (up (u 4 15) x, y2) := c0
    have ex : x1 = up (u 4 15 + 1) x := (Prod.mk.inj (Option.some.inj e1)).1
    have ey : y = y2 := (Prod.mk.inj (Option.some.inj e1)).2
    have ix : up (u 4 15) x = x := (Prod.mk.inj (Option.some.inj e0)).1.symm
    subst ex ey
    have k1 : F_Ca_change (up (u 4 15 + 1) x) 0 y v = upO (u 4 15 + 1) (F_Ca_change x 0 y v) := cz_Ca_change
    have k0 : F_Ca_change (up (u 4 15) x) 0 y v = upO (u 4 15) (F_Ca_change x 0 y v) := cz_Ca_change
    rw [ix] at k0
    cases hs : F_Ca_change x 0 y v with
    | none => rw [hs] at k1; exact absurd (d2.symm.trans k1) (fun z => by cases z)
    | some q =>
      obtain ⟨s, r2⟩ := q
      rw [hs] at k1 k0
      have g1 : some (s1, r) = some (up (u 4 15 + 1) s, r2) := d2.symm.trans k1
      have g0 : some (s, r2) = some (up (u 4 15) s, r2) := k0
      have es : s1 = up (u 4 15 + 1) s := (Prod.mk.inj (Option.some.inj g1)).1
      have is : up (u 4 15) s = s := (Prod.mk.inj (Option.some.inj g0)).1.symm
      have s15 : s 4 15 = u 4 15 := by
        have : up (u 4 15) s 4 15 = u 4 15 := gU_e
        rw [is] at this
        exact this
      subst es
      refine ⟨x, y, s, r2, up (u 4 15 + 1) s, s', r', rfl, hs, ?_, d3, ⟨d4.mono (by omega), (R2.2.fx d5 (by decide) (by decide) d6).mono (by omega)⟩, F2.trans d5, hc.2⟩
      rw [add_e (B := B) (by decide) (by decide) (by rw [s15]; omega) (by decide) (by omega), s15]
      rfl
theorem copy_R {B o n A to i b : Int} {σ τ : gM} {k1 k1' : gM → gO} {Q : gM → Int → gM → Int → Prop} (h : RR B σ τ) (ho : 0 ≤ o ∧ o < 40) (hn : σ 30 o = n ∧ τ 23 o = n) (hn1 : 1 ≤ n) (hn2 : n ≤ 24) (hA : τ 22 o = A) (hA2 : A + n ≤ 1024) (ht : 0 ≤ to) (ht2 : to < A) (hB : B + 25000 ≤ 1073741824)
    (k : ∀ s s', RR (B + 20000) s s' → FrX LPC LPM LP0 σ τ s s' → Sim (k1 s) (k1' s') Q) : Sim (gl1 (l_He_closeUp_35 k1 to i o A) 200 σ 0) (gl1 (l_Mo_moveAll_36 k1' to o b) 200 τ 0) Q := by
  refine sim_gl1 (lo := 0) (hi := n) (fun f t t' => RR (B + 810 * f) t t' ∧ FrX LPC LPM LP0 σ τ t t') ?_ ?_ 200 200 0 σ τ (by omega) (by omega) (by omega) (by omega) ⟨h.mono (by omega), FrX.refl _ _ _ _ _⟩
  · rintro rec rec' f t t' f1 f2 ⟨R, F⟩ ih
    have e30 : t 30 o = n := by rw [F.1 30 (by decide)]; exact hn.1
    have e23 : t' 23 o = n := by rw [F.2.1 23 (by decide)]; exact hn.2
    have e22 : t' 22 o = A := by rw [F.2.1 22 (by decide)]; exact hA
    unfold l_He_closeUp_35 l_Mo_moveAll_36 j_He_closeUp_115 j_Mo_moveAll_92
    obtain ⟨x, y, u, q, u', d1, d2, d3, d4, d5, d6, d7⟩ := ld_R (p := 0) (a := A + f) R.1 (by decide) (by decide) (by omega) (by omega) (by omega)
    have R1 : RR (B + 810 * f + 400) u u' := ⟨d4, (R.2.fx d5 (by decide) (by decide) d7).mono (by omega)⟩
    have F1 := F.trans d5
    rw [if_neg (show ¬ A = to by omega), gi_p ho, e30, if_pos f2, ga_p (x := A + f) (by omega), gk_e d1, gk_e d2, gi_p ho, e23, if_pos f2, gi_p ho, e22, ga_p (x := A + f) (by omega), gk_e d3]
    by_cases c : q = -5
    · rw [if_pos c, if_pos c, ga_p (by omega), ga_p (by omega)]
      exact ih u u' ⟨R1.mono (by omega), F1⟩
    · obtain ⟨x2, y2, s, r, z, s', r', g1, g2, g3, g4, g5, g6, g7⟩ := mv_R (a := to + f) (v := q) R1 (by omega) (by omega) (by omega) (by omega) (by omega)
      rw [if_neg c, if_neg c, ga_p (x := to + f) (by omega), gk_e g1, gk_e g2, gk_e g3, gi_p (by decide), ga_p (x := u' 30 15 + 1) (by omega), gw_p (by decide), ga_p (x := to + f) (by omega), gk_e g4, ga_p (by omega), ga_p (by omega)]
      exact ih z s' ⟨g5.mono (by omega), F1.trans g6⟩
  · rintro rec rec' t t' ⟨R, F⟩
    have e30 : t 30 o = n := by rw [F.1 30 (by decide)]; exact hn.1
    have e23 : t' 23 o = n := by rw [F.2.1 23 (by decide)]; exact hn.2
    unfold l_He_closeUp_35 l_Mo_moveAll_36
    rw [if_neg (show ¬ A = to by omega), gi_p ho, e30, if_neg (show ¬ n < n by omega), gi_p ho, e23, if_neg (show ¬ n < n by omega)]
    exact k t t' (R.mono (by omega)) F
/-- the others lie below, or behind the one that goes down -/
theorem HH.apart {B to o p : Int} {s s' : gM} (h : HH B s s') (hc : Cln s' to) (L : Lo (thr s') (s' 22) to o) (p1 : 0 ≤ p) (p2 : p < 40) (ht : s' 21 p = 1) (hne : p ≠ o) : (s' 22 p < to ∧ s' 22 p + rnd (s' 23 p) ≤ to) ∨ s' 22 o + rnd (s' 23 o) ≤ s' 22 p := by
  by_cases c : s' 22 p < to
  · exact Or.inl ⟨c, hc.2 p p1 p2 ht c⟩
  · right
    have hm := L.2.2.2 p p1 p2 ht (by omega)
    have q := ((h.1 p p1 p2).ex.2.2 ht).2.2
    have r := rnd_ok q.2.2.1 q.2.2.2.1
    have := h.2.1 p o p1 p2 L.1.1 L.1.2 ht L.2.1 hne
    omega
theorem HH.down {B to o : Int} {s s' : gM} (h : HH B s s') (h0 : 0 ≤ to) (hc : Cln s' to) (L : Lo (thr s') (s' 22) to o) : HH B (gU s 29 o to) (gU s' 22 o to) := by
  obtain ⟨hO, hD, hR, h11⟩ := id h
  have q := ((hO o L.1.1 L.1.2).ex.2.2 L.2.1)
  have r := rnd_ok q.2.2.2.2.1 q.2.2.2.2.2.1
  have hx := L.2.2.1
  refine ⟨fun p p1 p2 => ?_, fun p p' p1 p2 p3 p4 t1 t2 hne => ?_, hR, h11⟩
  · have := hO p p1 p2
    unfold HO at this ⊢
    rw [gU_k (show (4 : Nat) ≠ 29 by decide), gU_k (show (30 : Nat) ≠ 29 by decide), gU_k (show (31 : Nat) ≠ 29 by decide), gU_k (show (32 : Nat) ≠ 29 by decide), gU_k (show (33 : Nat) ≠ 29 by decide), gU_k (show (21 : Nat) ≠ 22 by decide), gU_k (show (23 : Nat) ≠ 22 by decide), gU_k (show (24 : Nat) ≠ 22 by decide), gU_k (show (25 : Nat) ≠ 22 by decide), gU_k (show (26 : Nat) ≠ 22 by decide), gU_at, gU_at]
    by_cases d : p = o
    · rw [if_pos d, if_pos d]
      refine ⟨this.1, this.2.imp (fun z => ?_) fun ⟨y1, ⟨y2, y3⟩, y4, y5⟩ => ⟨y1, ⟨rfl, y3⟩, ⟨h0, hc.1, y4.2.2.1, y4.2.2.2.1, ?_⟩, y5⟩⟩
      · rw [d] at z; have := L.2.1; unfold thr at this; omega
      · rw [d]; have := q.2.2.2.2.2.2; omega
    · rw [if_neg d, if_neg d]; exact this
  · rw [gU_k (show (21 : Nat) ≠ 22 by decide)] at t1 t2
    rw [gU_k (show (23 : Nat) ≠ 22 by decide), gU_at, gU_at]
    by_cases d : p = o
    · by_cases d' : p' = o
      · omega
      · rw [if_pos d, if_neg d', d]
        have := h.apart hc L p3 p4 t2 d'
        omega
    · by_cases d' : p' = o
      · rw [if_neg d, if_pos d', d']
        have := h.apart hc L p1 p2 t1 d
        omega
      · rw [if_neg d, if_neg d']; exact hD p p' p1 p2 p3 p4 t1 t2 hne
theorem close_R {B L : Int} (hL : L ≤ 40) (hB : B + 20100 * 42 ≤ 1073741824) : ∀ (n n' : Nat) (to i o : Int) (σ τ : gM), RR (B + 20100 * i) σ τ → σ 28 9 = L → 0 ≤ i → cA τ to + i ≤ L → 0 ≤ to → to ≤ 1024 → Cln τ to → ((o = -4 ∧ Lx (thr τ) (τ 22) to) ∨ Lo (thr τ) (τ 22) to o) → 41 - i < n → 41 - i < n' →
    Sim (gl2 (l_He_closeUp_4) n σ to i) (gl2 (l_Mo_moveAll_8) n' τ to o) (fun s _ s' _ => RR (B + 20100 * 41) s s') := by
  intro n
  induction n with
  | zero => intro n' to i o σ τ h _ i1 hc _ _ _ _ f1; have := cA_le τ to; clear h; omega
  | succ n ihn =>
    intro n' to i o σ τ h h28 i1 hc to1 to2 hcl ho f1 f2
    have hca := cA_le τ to
    cases n' with
    | zero => clear h ho hcl; omega
    | succ n' =>
    have ih := ihn n'
    rw [gl2_s, gl2_s]
    generalize gl2 (l_He_closeUp_4) n = rec at ih ⊢
    generalize gl2 (l_Mo_moveAll_8) n' = rec' at ih ⊢
    have hn : ∀ p, 0 ≤ p → p < 40 → τ 21 p = 1 → 1 ≤ τ 23 p := fun p p1 p2 p3 => ((h.2.1 p p1 p2).ex.2.2 p3).2.2.2.2.1
    unfold l_He_closeUp_4 l_Mo_moveAll_8
    rw [h28]
    rcases ho with ⟨e, l⟩ | lo
    · have fin : (if i < L then (gk (F_He_objectFrom σ to) fun s1 a2 => if a2 = (-1) then (some (s1, 0)) else (gi a2 40 <| gv (s1 29 a2) fun a3 => gl1 (l_He_closeUp_35 (fun s4 => j_He_closeUp_121 rec s4 to i a2) to i a2 a3) 200 s1 0)) else (some (σ, 0))) = some (σ, 0) := by
        split
        · rcases low_R (x := to) h.2.1 h.2.2.1 with ⟨q, q1, q2, q3⟩ | ⟨q1, q2, q3⟩
          · have := l q q3.1.1 q3.1.2 q3.2.1
            have := q3.2.2.1
            omega
          · rw [gk_e q1, if_pos rfl]
        · rfl
      rw [fin, if_pos e]
      exact sim_ret (h.mono (by omega))
    · have hp := cA_pos lo
      have q := (h.2.1 o lo.1.1 lo.1.2).ex.2.2 lo.2.1
      have r := rnd_ok q.2.2.2.2.1 q.2.2.2.2.2.1
      have hx := lo.2.2.1
      have e1 : F_He_objectFrom σ to = some (σ, o) := by
        rcases low_R (x := to) h.2.1 h.2.2.1 with ⟨q, q1, q2, q3⟩ | ⟨q1, q2, q3⟩
        · rw [q3.uniq h.2.2.1 hn lo] at q1; exact q1
        · have := q3 o lo.1.1 lo.1.2 lo.2.1
          omega
      -- once the bytes are down
      have tail : ∀ s s', RR (B + 20100 * i + 20000) s s' → FrX LPC LPM LP0 σ τ s s' → Sim (gi o 40 <| gk (F_He_rounded (gU s 29 o to) (gU s 29 o to 30 o)) fun s2 a3 => ga (to + a3) fun a4 => ga (i + 1) fun a5 => rec s2 a4 a5) (j_Mo_moveAll_105 rec' (gU s' 22 o to) to o (τ 22 o + 1)) (fun s _ s' _ => RR (B + 20100 * 41) s s') := by
        intro s s' R F
        have k21 : s' 21 = τ 21 := F.2.1 21 (by decide)
        have k22 : s' 22 = τ 22 := F.2.1 22 (by decide)
        have k23 : s' 23 = τ 23 := F.2.1 23 (by decide)
        have Ls : Lo (thr s') (s' 22) to o := by
          unfold thr
          rw [k21, k22]; exact lo
        have Cs : Cln s' to := by
          unfold Cln
          rw [k21, k22, k23]; exact hcl
        have H := R.2.down to1 Cs Ls
        have M : MM (B + 20100 * i + 20000) (gU s 29 o to) (gU s' 22 o to) := R.1.fx (frUp (by decide) (by decide)) (by decide) (by decide) (by decide)
        have e30 : gU s 29 o to 30 o = τ 23 o := by rw [gU_k (by decide), F.1 30 (by decide)]; exact q.2.1
        have m21 : gU s' 22 o to 21 = τ 21 := by rw [gU_k (by decide)]; exact k21
        have m23 : gU s' 22 o to 23 = τ 23 := by rw [gU_k (by decide)]; exact k23
        have m22 : ∀ p, gU s' 22 o to 22 p = if p = o then to else τ 22 p := fun p => by rw [gU_at, k22]
        have ap : ∀ p, 0 ≤ p → p < 40 → τ 21 p = 1 → p ≠ o → (τ 22 p < to ∧ τ 22 p + rnd (τ 23 p) ≤ to) ∨ τ 22 o + rnd (τ 23 o) ≤ τ 22 p := fun p p1 p2 p3 p4 => h.2.apart hcl lo p1 p2 p3 p4
        unfold j_Mo_moveAll_105
        rw [gi_p lo.1, e30, gk_e (rounded_C (by omega) (by omega)), ga_p (by omega), ga_p (by omega), gi_p lo.1, m23, gk_e (rounded_M (by omega) (by omega)), ga_p (by omega)]
        have go : ∀ o2, ((o2 = -4 ∧ Lx (thr (gU s' 22 o to)) (gU s' 22 o to 22) (to + rnd (τ 23 o))) ∨ Lo (thr (gU s' 22 o to)) (gU s' 22 o to 22) (to + rnd (τ 23 o)) o2) → Sim (rec (gU s 29 o to) (to + rnd (τ 23 o)) (i + 1)) (rec' (gU s' 22 o to) (to + rnd (τ 23 o)) o2) (fun s _ s' _ => RR (B + 20100 * 41) s s') := by
          intro o2 ho2
          refine ih _ _ _ _ _ ⟨M.mono (by omega), H.mono (by omega)⟩ (by rw [gU_k (by decide), F.1 28 (by decide)]; exact h28) (by omega) ?_ (by omega) (by omega) ⟨by have := hcl.1; omega, fun p p1 p2 p3 p4 => ?_⟩ ho2 (by omega) (by omega)
          · have : cA (gU s' 22 o to) (to + rnd (τ 23 o)) + 1 ≤ cA τ to := by
              refine gcnt_drop (c := o) 40 lo.1.1 lo.1.2 (fun p p1 p2 => ?_) ?_
              · rw [m21, m22]
                by_cases d : p = o
                · rw [if_pos d, if_neg (by omega)]; split <;> omega
                · rw [if_neg d]
                  split
                  · rename_i z; rw [if_pos ⟨z.1, by omega⟩]; exact Int.le_refl _
                  · split <;> omega
              · rw [m21, m22, if_pos rfl, if_neg (by omega), if_pos ⟨lo.2.1, hx⟩]; decide
            omega
          · rw [m21] at p3
            rw [m22] at p4 ⊢
            rw [m23]
            by_cases d : p = o
            · rw [if_pos d, d]; exact Int.le_refl _
            · rw [if_neg d] at p4 ⊢
              have := ap p p1 p2 p3 d
              omega
        have same : ∀ p, 0 ≤ p → p < 40 → τ 21 p = 1 → (τ 22 o + 1 ≤ gU s' 22 o to 22 p ↔ to + rnd (τ 23 o) ≤ gU s' 22 o to 22 p) := by
          intro p p1 p2 p3
          rw [m22]
          by_cases d : p = o
          · rw [if_pos d]; omega
          · rw [if_neg d]
            have := ap p p1 p2 p3 d
            omega
        have th : ∀ p, 0 ≤ p → p < 40 → gU s' 22 o to 21 p ≠ 0 → τ 21 p = 1 := fun p p1 p2 p3 => by
          rw [m21] at p3; exact (h.2.1 p p1 p2).ex.2.1.mp p3
        rcases firstFrom_e (σ := gU s' 22 o to) (x := τ 22 o + 1) with ⟨o2, g1, g2, g3, g4, g5⟩ | ⟨g1, g2⟩
        · rw [gk_e g1]
          have t2 := th o2 g2.1 g2.2 g3
          refine go o2 (Or.inr ⟨g2, by unfold thr; rw [m21]; exact t2, (same o2 g2.1 g2.2 t2).mp g4, fun p p1 p2 p3 p4 => ?_⟩)
          have p5 : τ 21 p = 1 := by unfold thr at p3; rw [m21] at p3; exact p3
          exact g5 p p1 p2 (by rw [m21]; omega) ((same p p1 p2 p5).mpr p4)
        · rw [gk_e g1]
          refine go (-4) (Or.inl ⟨rfl, fun p p1 p2 p3 => ?_⟩)
          have p5 : τ 21 p = 1 := by unfold thr at p3; rw [m21] at p3; exact p3
          have := g2 p p1 p2 (by rw [m21]; omega)
          have := same p p1 p2 p5
          omega
      rw [if_pos (show i < L by omega), gk_e e1, if_neg (show ¬ o = -1 by have := lo.1; omega), gi_p lo.1, gv_p, q.1, if_neg (show ¬ o = -4 by have := lo.1; omega), gi_p lo.1, ga_p (x := τ 22 o + 1) (by omega), gi_p lo.1]
      by_cases c : τ 22 o = to
      · have t0 := tail σ τ (h.mono (by omega)) (FrX.refl _ _ _ _ _)
        have z1 : gU σ 29 o to = σ := gU_id (by rw [q.1]; exact c.symm)
        have z2 : gU τ 22 o to = τ := gU_id c.symm
        have one : ∀ m k2, gl1 (l_He_closeUp_35 k2 to i o (τ 22 o)) (m + 1) σ 0 = k2 σ := by
          intro m k2
          show l_He_closeUp_35 k2 to i o (τ 22 o) (gl1 (l_He_closeUp_35 k2 to i o (τ 22 o)) m) σ 0 = _
          generalize gl1 (l_He_closeUp_35 k2 to i o (τ 22 o)) m = rr
          unfold l_He_closeUp_35
          rw [if_pos c]
        rw [if_pos c, one 199]
        unfold j_He_closeUp_121
        rw [gw_p lo.1]
        rw [z2] at t0
        exact t0
      · rw [if_neg c]
        refine copy_R h lo.1 ⟨q.2.1, rfl⟩ q.2.2.2.2.1 q.2.2.2.2.2.1 rfl (by omega) to1 (by omega) (by omega) fun s s' R F => ?_
        unfold j_He_closeUp_121
        rw [gw_p lo.1, gw_p lo.1]
        exact tail s s' R F
theorem closeUp_R {B : Int} {σ τ : gM} (h : RR B σ τ) (h28 : σ 28 9 = gcnt (τ 21) 40) (hB : B + 20100 * 42 ≤ 1073741824) : Sim (F_He_closeUp σ) (F_Mo_moveAll τ) (fun s _ s' _ => RR (B + 20100 * 41) s s') := by
  unfold F_He_closeUp F_Mo_moveAll
  have g := gcnt_le (f := τ 21) 40 (fun b b1 b2 => by rcases (h.2.1 b b1 b2).2 with z | z <;> omega)
  have c : cA τ 0 ≤ gcnt (τ 21) 40 := gcnt_mono 40 fun b b1 b2 => by
    split
    · rename_i z; rw [z.1]; exact Int.le_refl _
    · rcases (h.2.1 b b1 b2).2 with z | z <;> omega
  have go : ∀ o, ((o = -4 ∧ Lx (thr τ) (τ 22) 0) ∨ Lo (thr τ) (τ 22) 0 o) → Sim (gl2 (l_He_closeUp_4) 200 σ 0 0) (gl2 (l_Mo_moveAll_8) 200 τ 0 o) (fun s _ s' _ => RR (B + 20100 * 41) s s') := fun o ho =>
    close_R (L := σ 28 9) (by omega) hB 200 200 0 0 o σ τ (h.mono (by omega)) rfl (by omega) (by omega) (by omega) (by omega) h.2.cln0 ho (by omega) (by omega)
  rcases low_R (x := 0) h.2.1 h.2.2.1 with ⟨q, q1, q2, q3⟩ | ⟨q1, q2, q3⟩
  · rw [gk_e q2]; exact go q (Or.inr q3)
  · rw [gk_e q2]; exact go (-4) (Or.inl ⟨rfl, q3⟩)
