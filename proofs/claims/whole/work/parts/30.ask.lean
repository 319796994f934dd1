/-! a processor is asked -/
theorem LnA.e0 {B e : Int} {σ τ : gM} (h : LnA B (-1) σ τ) : LnA B e σ τ := by
  obtain ⟨h1, h2, h3, h4, h5, h6, h7, h8⟩ := h
  exact ⟨h1, h2, h3, h4, h5, fun p b l b' l' a1 a2 a3 a4 a5 a6 a7 a8 a9 => ⟨(h6 p b l b' l' a1 a2 a3 a4 a5 a6 a7 a8 a9).1, fun _ _ => (h6 p b l b' l' a1 a2 a3 a4 a5 a6 a7 a8 a9).2 (by omega) (by omega)⟩, fun p b l a1 a2 a3 a4 a5 => ⟨(h7 p b l a1 a2 a3 a4 a5).1, (h7 p b l a1 a2 a3 a4 a5).2.1, fun _ => (h7 p b l a1 a2 a3 a4 a5).2.2 (by omega)⟩, h8⟩
theorem LnB.e0 {E : Int → Prop} {e : Int} {σ τ : gM} (h : LnB E (-1) σ τ) : LnB E e σ τ := by
  obtain ⟨h1, h2, h3, h4⟩ := h
  exact ⟨h1, h2, fun i a1 a2 a3 _ => h3 i a1 a2 a3 (by omega), h4⟩
theorem miss_R {B p b : Int} {σ τ : gM} (h0 : R0 B σ τ) (hA : LnA B (-1) σ τ) (hN : LnB (fun _ => False) (-1) σ τ) (hp : 0 ≤ p) (hp2 : p < 2) (hb : 0 ≤ b) (hb2 : b < 64) (hno : ∀ l, ¬ On τ p b l) (hlt : ∀ p b l, 0 ≤ p → p < 2 → 0 ≤ b → b < 64 → On τ p b l → τ 7 l < τ 0 18) (hB : B + 40 ≤ 1073741824) :
    Sim (F_Ca_miss σ (64 * p + b)) (F_Mo_bring τ p b) (fun s r s' l => R0 (B + 40) s s' ∧ LnA (B + 40) (64 * p + b) s s' ∧ LnB (fun _ => False) (64 * p + b) s s' ∧ On s' p b l ∧ FrM σ τ s s' ∧ (s' 6 = τ 6 ∧ s' 12 = τ 12 ∧ s' 0 18 = τ 0 18 ∧ ∀ p' b' l', 0 ≤ b' → 64 * p' + b' ≠ 64 * p + b → On s' p' b' l' → On τ p' b' l')) := by
  obtain ⟨c, c1, c2, c3, c4⟩ := cause_R hN hp hp2 hb hb2 (fun z => z) (show 64 * p + b ≠ -1 by omega)
  unfold F_Ca_miss F_Mo_bring
  rw [gd_p (by omega), gv_p, show (64 * p + b) % 64 = b by omega, gk_e (twin_e hp hp2 hb hb2), gk_e c1, gk_e c2]
  refine sim_count h0 (by decide) (by decide) (by decide) (by decide) (by decide) (by decide) (by omega) fun s1 s1' r1 f1 => ?_
  refine sim_count r1 (by omega) (by omega) (by omega) (by omega) (by omega) (by decide) (by omega) fun s2 s2' r2 f2 => ?_
  have f12 := f1.trans f2
  have A2 := (hA.sm f12.smA).mono (show B ≤ B + 2 by omega)
  have N2 := hN.sm f12.smA
  have o2 : ∀ p b l, On s2' p b l ↔ On τ p b l := fun p b l => On_sm (f12.2.2.1 4 (by decide) (by decide) (by decide) (by decide) (by decide) (by decide)) (f12.2.2.2 5 (by decide)) (f12.2.2.2 6 (by decide))
  rw [gi_p (by omega), ga_p (by omega)]
  -- what comes behind the other processor's line, from any state that keeps the relation
  have rest : ∀ s3 s3', R0 (B + 11) s3 s3' → LnA (B + 11) (-1) s3 s3' → LnB (fun _ => False) (-1) s3 s3' → FrV s2 s2' s3 s3' → (∀ p b l, 0 ≤ b → On s3' p b l → On s2' p b l) → Sim (j_Ca_miss_53 s3 (64 * p + b) b c) (j_Mo_bring_61 s3' p b c) (fun s r s' l => R0 (B + 40) s s' ∧ LnA (B + 40) (64 * p + b) s s' ∧ LnB (fun _ => False) (64 * p + b) s s' ∧ On s' p b l ∧ FrM σ τ s s' ∧ (s' 6 = τ 6 ∧ s' 12 = τ 12 ∧ s' 0 18 = τ 0 18 ∧ ∀ p' b' l', 0 ≤ b' → 64 * p' + b' ≠ 64 * p + b → On s' p' b' l' → On τ p' b' l')) := by
    intro s3 s3' r3 A3 N3 f3 o3
    obtain ⟨s4, s4', l, e1, e2, r4, A4, hl, hfree, o4, f4⟩ := victim_R r3 A3 hp hp2 hb hb2 (fun l z => hno l ((o2 _ _ _).mp (o3 _ _ _ hb z))) (show 0 ≤ c by omega) (by omega) (by omega)
    have N4 := N3.smB f4.smB
    have f34 := f3.trans f4
    have e7 : s4' 7 = τ 7 := by rw [f34.2.2.1 7 (by decide) (by decide) (by decide) (by decide) (by decide) (by decide) (by decide) (by decide), f12.2.2.1 7 (by decide) (by decide) (by decide) (by decide) (by decide) (by decide)]
    have e18 : s4' 0 18 = τ 0 18 := by rw [f34.2.2.2 18 (by decide), f12.2.2.2 18 (by decide)]
    have hb4 := bring_R r4 A4 N4 hp hp2 hb hb2 (l := l) (c := c) hl.1 hl.2 (fun l z => hno l ((o2 _ _ _).mp (o3 _ _ _ hb (o4 _ _ _ hb z)))) hfree (fun p b l q1 q2 q3 q4 z => by rw [e7, e18]; exact hlt p b l q1 q2 q3 q4 ((o2 _ _ _).mp (o3 _ _ _ q3 (o4 _ _ _ q3 z)))) (by omega) (by omega) (by omega)
    unfold j_Mo_bring_61
    rw [e1, gk_e e2]
    refine sim_mono hb4 fun s r s' r' q => ?_
    obtain ⟨-, rfl, q3, q4, q5, q6, q7, q8, q9, q10, q11⟩ := q
    have e6 : s4' 6 = τ 6 := by rw [f34.2.2.1 6 (by decide) (by decide) (by decide) (by decide) (by decide) (by decide) (by decide) (by decide), f12.2.2.1 6 (by decide) (by decide) (by decide) (by decide) (by decide) (by decide)]
    have e12 : s4' 12 = τ 12 := by rw [f34.2.2.1 12 (by decide) (by decide) (by decide) (by decide) (by decide) (by decide) (by decide) (by decide), f12.2.2.1 12 (by decide) (by decide) (by decide) (by decide) (by decide) (by decide)]
    exact ⟨q3.mono (by omega), q4.mono (by omega), q5, q6, f12.frV.frM.trans (f34.frM.trans q7), q8.trans e6, q9.trans e12, q10.trans e18, fun p' b' l' z1 z2 z3 => (o2 _ _ _).mp (o3 _ _ _ z1 (o4 _ _ _ z1 (q11 p' b' l' z1 z2 z3)))⟩
  rcases find_R A2 (show 0 ≤ 1 - p by omega) (by omega) hb hb2 with ⟨z1, z2, -⟩ | ⟨l, l1, l2, l3, l4, l5⟩
  · rw [if_neg (show ¬ s2 10 (64 * (1 - p) + b) = 2 by omega), gk_e z2, if_pos rfl]
    exact rest s2 s2' (r2.mono (by omega)) (A2.mono (by omega)) N2 (FrV.refl _ _) fun _ _ _ _ z => z
  · rw [gk_e l3, if_neg (show ¬ l = -4 by omega), gi_p l1]
    by_cases hd : s2' 5 l = 0
    · rw [if_neg (show ¬ s2 10 (64 * (1 - p) + b) = 2 by omega), if_pos hd]
      exact rest s2 s2' (r2.mono (by omega)) (A2.mono (by omega)) N2 (FrV.refl _ _) fun _ _ _ _ z => z
    · obtain ⟨s, s', o1, o2, r, la, fs⟩ := store_R r2 (A2.mono (show B + 2 ≤ B + 1 + 1 by omega)) (show 0 ≤ 1 - p by omega) (by omega) hb hb2 l2 (show 0 ≤ c by omega) (by omega) (by omega)
      rw [if_pos (show s2 10 (64 * (1 - p) + b) = 2 by omega), if_neg hd, gk_e o1, gk_e o2]
      exact rest s s' (r.mono (by omega)) (la.mono (by omega)) (N2.smB fs.frV.smB) fs.frV fun p b l _ z => (On_sm (fs.2.2.2.2.1 4 (by decide) (by decide) (by decide) (by decide) (by decide) (by decide) (by decide)) (fs.2.2.2.2.2.1 5 (by decide)) (fs.2.2.2.2.2.1 6 (by decide))).mp z
/-! the play beside -/
theorem gcnt_upd {f g : Int → Int} {c : Int} : ∀ n : Nat, 0 ≤ c → c < n → (∀ b, b ≠ c → g b = f b) → gcnt g n = gcnt f n - f c + g c
  | 0, h0, h1, _ => by omega
  | n + 1, h0, h1, h => by
    rw [gcnt.eq_2, gcnt.eq_2]
    by_cases q : (n : Int) = c
    · rw [q, gcnt_congr (f := g) (g := f) n (fun b b1 b2 => h b (by omega))]
      omega
    · rw [gcnt_upd n h0 (by omega) h, h _ q]
      omega
/-- the first of those asked longest ago -/
def FMn (σ : gM) (p n v : Int) : Prop := (0 ≤ v ∧ v < n) ∧ σ 15 (64 * p + v) = 1 ∧ (∀ b, 0 ≤ b → b < n → σ 15 (64 * p + b) = 1 → σ 13 (64 * p + v) ≤ σ 13 (64 * p + b)) ∧ (∀ b, 0 ≤ b → b < v → σ 15 (64 * p + b) = 1 → σ 13 (64 * p + v) < σ 13 (64 * p + b))
theorem FMn.uniq {σ : gM} {p n v w : Int} (h : FMn σ p n v) (h' : FMn σ p n w) : v = w := by
  obtain ⟨a1, a2, a3, a4⟩ := h
  obtain ⟨b1, b2, b3, b4⟩ := h'
  rcases (show v < w ∨ v = w ∨ w < v by omega) with q | q | q
  · have := b4 v a1.1 q a2
    have := a3 w b1.1 b1.2 b2
    omega
  · exact q
  · have := a4 w b1.1 q b2
    have := b3 v a1.1 a1.2 a2
    omega
theorem FMn.keep {σ : gM} {p n v : Int} (h : FMn σ p n v) (hn : ¬ (σ 15 (64 * p + n) = 1 ∧ σ 13 (64 * p + n) < σ 13 (64 * p + v))) : FMn σ p (n + 1) v := by
  obtain ⟨a1, a2, a3, a4⟩ := h
  refine ⟨⟨a1.1, by omega⟩, a2, fun b b1 b2 b3 => ?_, a4⟩
  rcases (show b < n ∨ b = n by omega) with q | rfl
  · exact a3 b b1 q b3
  · by_cases z : σ 13 (64 * p + b) < σ 13 (64 * p + v)
    · exact absurd ⟨b3, z⟩ hn
    · omega
theorem FMn.new {σ : gM} {p n v : Int} (h : FMn σ p n v) (h1 : σ 15 (64 * p + n) = 1) (h2 : σ 13 (64 * p + n) < σ 13 (64 * p + v)) : FMn σ p (n + 1) n := by
  obtain ⟨a1, a2, a3, a4⟩ := h
  refine ⟨⟨by omega, by omega⟩, h1, fun b b1 b2 b3 => ?_, fun b b1 b2 b3 => ?_⟩
  · rcases (show b < n ∨ b = n by omega) with q | rfl
    · have := a3 b b1 q b3; omega
    · exact Int.le_refl _
  · have := a3 b b1 b2 b3; omega
theorem FMn.one {σ : gM} {p n : Int} (h0 : 0 ≤ n) (h : ∀ b, 0 ≤ b → b < n → ¬ σ 15 (64 * p + b) = 1) (h1 : σ 15 (64 * p + n) = 1) : FMn σ p (n + 1) n := by
  refine ⟨⟨h0, by omega⟩, h1, fun b b1 b2 b3 => ?_, fun b b1 b2 b3 => absurd b3 (h b b1 b2)⟩
  rcases (show b < n ∨ b = n by omega) with q | rfl
  · exact absurd b3 (h b b1 q)
  · exact Int.le_refl _
theorem leavePlay_e {σ : gM} {p : Int} (hp : 0 ≤ p) (hp2 : p < 2) (h01 : ∀ b, 0 ≤ b → b < 64 → σ 15 (64 * p + b) = 1 ∨ σ 15 (64 * p + b) = 0) (hc : ∃ b, 0 ≤ b ∧ b < 64 ∧ σ 15 (64 * p + b) = 1) (h16 : -1000 ≤ σ 16 p ∧ σ 16 p ≤ 1000) :
    ∃ v, FMn σ p 64 v ∧ F_Ca_leavePlay σ p = some (gU (gU σ 15 (64 * p + v) 0) 16 p (σ 16 p - 1), 0) := by
  obtain ⟨bc, bc1, bc2, bc3⟩ := hc
  unfold F_Ca_leavePlay
  refine to_gl2 (lo := 0) (hi := 64) (R := fun o => ∃ v, FMn σ p 64 v ∧ o = some (gU (gU σ 15 (64 * p + v) 0) 16 p (σ 16 p - 1), 0)) (fun j s v => s = σ ∧ ((v = -4 ∧ ∀ b, 0 ≤ b → b < j → ¬ σ 15 (64 * p + b) = 1) ∨ ∃ w, v = 64 * p + w ∧ FMn σ p j w)) ?_ ?_ 200 0 σ (-4) (by omega) (by omega) (by omega) ⟨rfl, Or.inl ⟨rfl, fun b _ _ => by omega⟩⟩
  · rintro rec j s v j1 j2 ⟨rfl, hv⟩ ih
    unfold l_Ca_leavePlay_5 j_Ca_leavePlay_54 j_Ca_leavePlay_57
    rw [if_pos j2, ga_p (by omega), ga_p (by omega), show p * 64 + j = 64 * p + j by omega, gi_p (by omega)]
    rcases h01 j j1 j2 with hb | hb
    · rw [if_neg (show ¬ s 15 (64 * p + j) = 0 by omega)]
      rcases hv with ⟨rfl, hv⟩ | ⟨w, rfl, hw⟩
      · rw [if_pos rfl, ga_p (by omega)]
        exact ih s _ ⟨rfl, Or.inr ⟨j, rfl, FMn.one j1 hv hb⟩⟩
      · have hwb := hw.1
        rw [if_neg (show ¬ 64 * p + w = -4 by omega), gi_p (by omega), gi_p (by omega)]
        by_cases c : s 13 (64 * p + j) < s 13 (64 * p + w)
        · rw [if_pos c, ga_p (by omega)]
          exact ih s _ ⟨rfl, Or.inr ⟨j, rfl, hw.new hb c⟩⟩
        · rw [if_neg c, ga_p (by omega)]
          exact ih s _ ⟨rfl, Or.inr ⟨w, rfl, hw.keep fun z => c z.2⟩⟩
    · rw [if_pos hb, ga_p (by omega)]
      refine ih s _ ⟨rfl, ?_⟩
      rcases hv with ⟨rfl, hv⟩ | ⟨w, rfl, hw⟩
      · refine Or.inl ⟨rfl, fun b b1 b2 => ?_⟩
        rcases (show b < j ∨ b = j by omega) with q | rfl
        · exact hv b b1 q
        · omega
      · exact Or.inr ⟨w, rfl, hw.keep fun z => by omega⟩
  · rintro rec s v ⟨rfl, hv⟩
    unfold l_Ca_leavePlay_5
    rw [if_neg (by decide)]
    rcases hv with ⟨rfl, hv⟩ | ⟨w, rfl, hw⟩
    · exact absurd bc3 (hv bc bc1 bc2)
    · have hwb := hw.1
      refine ⟨w, hw, ?_⟩
      dsimp only
      rw [if_neg (show ¬ 64 * p + w = -4 by omega), gwb_p ⟨by omega, by decide⟩, gi_p (by omega), gU_k (by decide), ga_p (by omega), gw_p (by omega)]
theorem evictM_e {σ τ : gM} {p b v : Int} {k1 : gM → Int → gO} (hp : 0 ≤ p) (hp2 : p < 2) (hbs : ∀ i, 0 ≤ i → i < 128 → (σ 15 i = 1 ∧ 1 ≤ τ 12 i) ∨ (σ 15 i = 0 ∧ τ 12 i = 0)) (hpo : ∀ b b', 0 ≤ b → b < 64 → 0 ≤ b' → b' < 64 → σ 15 (64 * p + b) = 1 → σ 15 (64 * p + b') = 1 → (τ 12 (64 * p + b) < τ 12 (64 * p + b') ↔ σ 13 (64 * p + b) < σ 13 (64 * p + b'))) (hv : FMn σ p 64 v) :
    gl2 (l_Mo_playBeside_37 k1 p b) 200 τ (-4) 0 = k1 τ v := by
  refine to_gl2 (lo := 0) (hi := 64) (R := fun o => o = k1 τ v) (fun j s w => s = τ ∧ ((w = -4 ∧ ∀ b, 0 ≤ b → b < j → ¬ σ 15 (64 * p + b) = 1) ∨ FMn σ p j w)) ?_ ?_ 200 0 τ (-4) (by omega) (by omega) (by omega) ⟨rfl, Or.inl ⟨rfl, fun b _ _ => by omega⟩⟩
  · rintro rec j s w j1 j2 ⟨rfl, hw⟩ ih
    unfold l_Mo_playBeside_37 j_Mo_playBeside_91 j_Mo_playBeside_94
    rw [if_pos j2, ga_p (by omega), ga_p (by omega), gi_p (by omega)]
    rcases hbs (64 * p + j) (by omega) (by omega) with ⟨hb, hb2⟩ | ⟨hb, hb2⟩
    · rw [if_pos (show 0 < s 12 (64 * p + j) by omega)]
      rcases hw with ⟨rfl, hw⟩ | hw
      · rw [if_pos rfl, ga_p (by omega)]
        exact ih s _ ⟨rfl, Or.inr (FMn.one j1 hw hb)⟩
      · have hwb := hw.1
        rw [if_neg (show ¬ w = -4 by omega), ga_p (by omega), ga_p (by omega), gi_p (by omega), ga_p (by omega), ga_p (by omega), gi_p (by omega)]
        have ho := hpo j w j1 j2 hwb.1 (by omega) hb hw.2.1
        by_cases c : s 12 (64 * p + j) < s 12 (64 * p + w)
        · rw [if_pos c, ga_p (by omega)]
          exact ih s _ ⟨rfl, Or.inr (hw.new hb (ho.mp c))⟩
        · rw [if_neg c, ga_p (by omega)]
          exact ih s _ ⟨rfl, Or.inr (hw.keep fun z => c (ho.mpr z.2))⟩
    · rw [if_neg (show ¬ 0 < s 12 (64 * p + j) by omega), ga_p (by omega)]
      refine ih s _ ⟨rfl, ?_⟩
      rcases hw with ⟨rfl, hw⟩ | hw
      · refine Or.inl ⟨rfl, fun b b1 b2 => ?_⟩
        rcases (show b < j ∨ b = j by omega) with q | rfl
        · exact hw b b1 q
        · omega
      · exact Or.inr (hw.keep fun z => by omega)
  · rintro rec s w ⟨rfl, hw⟩
    unfold l_Mo_playBeside_37
    rw [if_neg (by decide)]
    rcases hw with ⟨rfl, hw⟩ | hw
    · exact absurd hv.2.1 (hw v hv.1.1 hv.1.2)
    · rw [hw.uniq hv]
theorem many_e {σ τ : gM} {p : Int} (hp : 0 ≤ p) (hp2 : p < 2) (hbs : ∀ i, 0 ≤ i → i < 128 → (σ 15 i = 1 ∧ 1 ≤ τ 12 i) ∨ (σ 15 i = 0 ∧ τ 12 i = 0)) : F_Mo_besideMany τ p = some (τ, gcnt (fun b => σ 15 (64 * p + b)) 64) := by
  unfold F_Mo_besideMany
  refine to_gl2 (lo := 0) (hi := 64) (R := fun o => o = some (τ, gcnt (fun b => σ 15 (64 * p + b)) 64)) (fun j s a => s = τ ∧ ∀ k : Nat, j = k → a = gcnt (fun b => σ 15 (64 * p + b)) k) ?_ ?_ 200 0 τ 0 (by omega) (by omega) (by omega) ⟨rfl, fun k hk => ?_⟩
  · rintro rec j s a j1 j2 ⟨rfl, ha⟩ ih
    obtain ⟨k, rfl⟩ : ∃ k : Nat, j = (k : Int) := ⟨j.toNat, by omega⟩
    obtain rfl := ha k rfl
    have hle := gcnt_le (f := fun b => σ 15 (64 * p + b)) k (fun b b1 b2 => by rcases hbs (64 * p + b) (by omega) (by omega) with z | z <;> omega)
    unfold l_Mo_besideMany_4 j_Mo_besideMany_30
    rw [if_pos j2, ga_p (by omega), ga_p (by omega), gi_p (by omega)]
    rcases hbs (64 * p + k) (by omega) (by omega) with ⟨hb, hb2⟩ | ⟨hb, hb2⟩
    · rw [if_pos (show 0 < s 12 (64 * p + k) by omega), ga_p (by omega), ga_p (by omega)]
      refine ih s _ ⟨rfl, fun k' hk' => ?_⟩
      obtain rfl : k' = k + 1 := by omega
      rw [gcnt.eq_2, hb]
    · rw [if_neg (show ¬ 0 < s 12 (64 * p + k) by omega), ga_p (by omega), ga_p (by omega)]
      refine ih s _ ⟨rfl, fun k' hk' => ?_⟩
      obtain rfl : k' = k + 1 := by omega
      rw [gcnt.eq_2, hb]
  · rintro rec s a ⟨rfl, ha⟩
    obtain rfl := ha 64 rfl
    unfold l_Mo_besideMany_4
    rw [if_neg (by decide)]
  · obtain rfl : k = 0 := by omega
    rfl
