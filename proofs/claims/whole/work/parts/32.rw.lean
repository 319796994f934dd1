/-! asking, reading, writing -/
/-- lines and blocks in order -/
def Ln (B : Int) (σ τ : gM) : Prop := LnA B (-1) σ τ ∧ LnB (fun _ => False) (-1) σ τ
theorem Ln.mono {B B' : Int} {σ τ : gM} (h : Ln B σ τ) (hb : B ≤ B') : Ln B' σ τ := ⟨h.1.mono hb, h.2⟩
/-- the model's clock goes on -/
theorem clk_up {B : Int} {σ τ : gM} (h0 : R0 B σ τ) (h : Ln B σ τ) : R0 (B + 1) σ (gU τ 0 18 (τ 0 18 + 1)) ∧ Ln (B + 1) σ (gU τ 0 18 (τ 0 18 + 1)) ∧ FrM σ τ σ (gU τ 0 18 (τ 0 18 + 1)) ∧
    (∀ p b l, 0 ≤ p → p < 2 → 0 ≤ b → b < 64 → On (gU τ 0 18 (τ 0 18 + 1)) p b l → (gU τ 0 18 (τ 0 18 + 1)) 6 l < (gU τ 0 18 (τ 0 18 + 1)) 0 18 ∧ (gU τ 0 18 (τ 0 18 + 1)) 7 l < (gU τ 0 18 (τ 0 18 + 1)) 0 18) ∧ (∀ i, 0 ≤ i → i < 128 → (gU τ 0 18 (τ 0 18 + 1)) 12 i < (gU τ 0 18 (τ 0 18 + 1)) 0 18) := by
  obtain ⟨⟨⟨hS, h7, h8, h9, h18⟩, L1, L2, L3, L4, L5, L6, TT⟩, n1, n2, n3, n4, n5, n6, n7⟩ := h
  have e0 : ∀ j, j ≠ 18 → gU τ 0 18 (τ 0 18 + 1) 0 j = τ 0 j := fun j hj => gU_i hj
  have ek : ∀ k, k ≠ 0 → gU τ 0 18 (τ 0 18 + 1) k = τ k := fun k hk => gU_k hk
  have hon : ∀ p b l, On (gU τ 0 18 (τ 0 18 + 1)) p b l ↔ On τ p b l := fun p b l => On_sm (ek 4 (by decide)) (e0 5 (by decide)) (e0 6 (by decide))
  refine ⟨?_, ⟨?_, ?_⟩, ?_, ?_, ?_⟩
  · have q := h0.mono (show B ≤ B + 1 by omega)
    unfold R0
    rw [e0 1 (by decide), e0 7 (by decide), e0 8 (by decide), e0 20 (by decide), e0 31 (by decide), e0 40 (by decide), e0 4 (by decide), ek 1 (by decide), ek 2 (by decide), ek 3 (by decide), ek 29 (by decide), ek 30 (by decide)]
    exact q
  · unfold LnA Shp Byt
    simp only [hon, e0 5 (by decide), e0 6 (by decide), gU_e, ek 4 (by decide), ek 5 (by decide), ek 6 (by decide), ek 7 (by decide), ek 8 (by decide), ek 9 (by decide)]
    refine ⟨⟨hS, h7, h8, ⟨by omega, by omega⟩, by omega, by omega⟩, L1, L2, L3, L4, L5, fun p b l q1 q2 q3 q4 o => ?_, TT⟩
    have := L6 p b l q1 q2 q3 q4 o
    exact ⟨by omega, this.2.1, fun z => by have := this.2.2 z; omega⟩
  · unfold LnB
    simp only [e0 5 (by decide), e0 6 (by decide), gU_e, ek 10 (by decide), ek 11 (by decide), ek 12 (by decide)]
    refine ⟨n1, n2, n3, fun i i1 i2 i3 => ?_, n5, n6, n7⟩
    rcases n4 i i1 i2 i3 with z | z
    · exact Or.inl ⟨z.1, z.2.1, z.2.2.1, by omega⟩
    · exact Or.inr z
  · exact ⟨fun _ _ _ _ _ _ _ _ _ _ _ _ _ _ => rfl, rfl, fun _ _ => rfl, fun k a _ _ _ _ _ _ => ek k a, fun j _ hj => e0 j hj⟩
  · intro p b l q1 q2 q3 q4 o
    rw [gU_e, ek 6 (by decide), ek 7 (by decide)]
    have := L6 p b l q1 q2 q3 q4 ((hon _ _ _).mp o)
    have := this.2.2 (by omega)
    omega
  · intro i i1 i2
    rw [gU_e, ek 12 (by decide)]
    rcases n4 i i1 i2 (fun z => z) with z | z <;> omega
theorem ask_R {B p a : Int} {σ τ : gM} (h0 : R0 B σ τ) (hL : Ln B σ τ) (hp : 0 ≤ p) (hp2 : p < 2) (ha : 0 ≤ a) (ha2 : a < 512) (hB : B + 50 ≤ 1073741824) :
    Sim (F_Ca_ask σ p a) (F_Mo_ask τ p a) (fun s r s' l => R0 (B + 50) s s' ∧ Ln (B + 50) s s' ∧ On s' p (a / 8) l ∧ r = s 11 (8 * (64 * p + a / 8) + a % 8) ∧ FrM σ τ s s' ∧ s' 0 18 = τ 0 18 + 1) := by
  obtain ⟨b, hb⟩ : ∃ b, b = a / 8 := ⟨_, rfl⟩
  have hb1 : 0 ≤ b := by omega
  have hb2 : b < 64 := by omega
  have h18 := hL.1.1.2.2.2.2
  obtain ⟨r1, L1, f1, st, st12⟩ := clk_up h0 hL
  unfold F_Ca_ask F_Mo_ask
  rw [ga_p (by omega), gd_p (by omega), ga_p (by omega), gd_p (by omega), gv_p, ga_p (by omega), gp_p, ← hb, show p * 64 + b = 64 * p + b by omega]
  refine sim_count r1 (by decide) (by decide) (by decide) (by decide) (by decide) (by decide) (by omega) fun s1 s1' r2 f2 => ?_
  have A2 := L1.1.sm f2.smA
  have N2 := L1.2.sm f2.smA
  have g4 := f2.2.2.1 4 (by decide) (by decide) (by decide) (by decide) (by decide) (by decide)
  have g6 := f2.2.2.1 6 (by decide) (by decide) (by decide) (by decide) (by decide) (by decide)
  have g7 := f2.2.2.1 7 (by decide) (by decide) (by decide) (by decide) (by decide) (by decide)
  have g12 := f2.2.2.1 12 (by decide) (by decide) (by decide) (by decide) (by decide) (by decide)
  have hon : ∀ p b l, On s1' p b l ↔ On (gU τ 0 18 (τ 0 18 + 1)) p b l := fun p b l => On_sm g4 (f2.2.2.2 5 (by decide)) (f2.2.2.2 6 (by decide))
  have k18 := f2.2.2.2 18 (by decide)
  have st2 : ∀ p b l, 0 ≤ p → p < 2 → 0 ≤ b → b < 64 → On s1' p b l → s1' 6 l < s1' 0 18 ∧ s1' 7 l < s1' 0 18 := fun p b l q1 q2 q3 q4 o => by
    rw [g6, g7, k18]; exact st p b l q1 q2 q3 q4 ((hon _ _ _).mp o)
  have st3 : ∀ i, 0 ≤ i → i < 128 → s1' 12 i < s1' 0 18 := fun i i1 i2 => by rw [g12, k18]; exact st12 i i1 i2
  rw [gi_p (by omega)]
  rcases find_R A2 hp hp2 hb1 hb2 with ⟨z1, z2, z3⟩ | ⟨l, l1, l2, l3, l4, l5⟩
  · rw [if_pos z1, gk_e z2, if_pos rfl]
    refine sim_bind (miss_R r2 (A2.mono (show B + 1 ≤ B + 1 + 1 by omega)) N2 hp hp2 hb1 hb2 z3 (fun p b l q1 q2 q3 q4 o => (st2 p b l q1 q2 q3 q4 o).2) (by omega)) fun s r s' l q => ?_
    obtain ⟨q1, q2, q3, q4, q5, q6, q7, q8, q9⟩ := q
    refine sim_mono (tail_R q1 q2 q3 hp hp2 hb1 hb2 ha ha2 hb.symm q4 (fun p' b' l' w1 w2 w3 w4 w5 w6 => by rw [q6, q8]; exact (st2 p' b' l' w1 w2 w3 w4 (q9 p' b' l' w3 w5 w6)).1) (fun i i1 i2 => by rw [q7, q8]; exact st3 i i1 i2) (by omega)) fun t x t' y w => ?_
    obtain ⟨rfl, w2, w3, w4, w5, w6, w7, w8⟩ := w
    exact ⟨w3.mono (by omega), ⟨w4.mono (by omega), w5⟩, w6, w2, f1.trans (f2.frV.frM.trans (q5.trans w7)), by rw [w8, q8, k18, gU_e]⟩
  · rw [if_neg (show ¬ s1 10 (64 * p + b) = 0 by omega), gk_e l3, if_neg (show ¬ l = -4 by omega)]
    refine sim_mono (tail_R r2 (A2.mono (show B + 1 ≤ B + 1 + 1 by omega)).e0 N2.e0 hp hp2 hb1 hb2 ha ha2 hb.symm l2 (fun p' b' l' w1 w2 w3 w4 w5 w6 => (st2 p' b' l' w1 w2 w3 w4 w6).1) st3 (by omega)) fun t x t' y w => ?_
    obtain ⟨rfl, w2, w3, w4, w5, w6, w7, w8⟩ := w
    exact ⟨w3.mono (by omega), ⟨w4.mono (by omega), w5⟩, w6, w2, f1.trans (f2.frV.frM.trans w7), by rw [w8, k18, gU_e]⟩
theorem read_R {B p a : Int} {σ τ : gM} (h0 : R0 B σ τ) (hL : Ln B σ τ) (hp : 0 ≤ p) (hp2 : p < 2) (ha : 0 ≤ a) (ha2 : a < 512) (hB : B + 50 ≤ 1073741824) :
    Sim (F_Ca_ask σ p a) (F_Mo_readByte τ p a) (fun s r s' r' => R0 (B + 50) s s' ∧ Ln (B + 50) s s' ∧ r' = r ∧ (r = -5 ∨ (0 ≤ r ∧ r ≤ 255)) ∧ FrM σ τ s s' ∧ s' 0 18 = τ 0 18 + 1) := by
  obtain ⟨s, r, s', l, e1, e2, q1, q2, q3, q4, q5, q6⟩ := ask_R h0 hL hp hp2 ha ha2 hB
  have hbd := q3.bd q2.1.1.1 hp hp2
  have hy := (q2.1.2.1 p (a / 8) l hp hp2 (by omega) (by omega) q3).2.2 (a % 8) (by omega) (by omega)
  have hg : gAnd (gShr (s' 9 l) (a % 8)) 1 = gBt (s' 9 l) (a % 8) := rfl
  unfold F_Mo_readByte
  rw [e1, gk_e e2, gi_p hbd, gd_p (by omega), hg, q4]
  rcases hy with ⟨y1, y2⟩ | ⟨y1, y2, y3, y4⟩
  · rw [if_pos y2]
    exact sim_ret ⟨q1, q2, y1.symm, Or.inl y1, q5, q6⟩
  · rw [if_neg (by omega), ga_p (by omega), gd_p (by omega), ga_p (by omega), gi_p (by omega)]
    exact sim_ret ⟨q1, q2, y2.symm, Or.inr (by omega), q5, q6⟩
/-- a byte of a line that is there is written -/
theorem byte_A {B p b l k v : Int} {σ τ : gM} (h : LnA B (-1) σ τ) (hp : 0 ≤ p) (hp2 : p < 2) (hb : 0 ≤ b) (hb2 : b < 64) (hl : On τ p b l) (hk : 0 ≤ k) (hk2 : k < 8) (hv : 0 ≤ v) (hv2 : v ≤ 255) :
    LnA B (-1) (gU σ 11 (8 * (64 * p + b) + k) v) (gU (gU τ 8 (8 * l + k) v) 9 l (gAnd (τ 9 l) (gXor (gShl 1 k) (-1)))) := by
  obtain ⟨h1, L1, L2, L3, L4, L5, L6, TT⟩ := h
  have hS := h1.1
  have hr := L1 p b l hp hp2 hb hb2 hl
  obtain ⟨x1, x2⟩ := gBt_an hr.2.1.1 hr.2.1.2 hk hk2
  have ho : ∀ p b l', On (gU (gU τ 8 (8 * l + k) v) 9 l (gAnd (τ 9 l) (gXor (gShl 1 k) (-1)))) p b l' ↔ On τ p b l' := fun p b l' => (On_k (by decide) (by decide)).trans (On_k (by decide) (by decide))
  refine ⟨h1, fun p' b' l' q1 q2 q3 q4 o => ?_, fun p' b' q1 q2 q3 q4 => ?_, fun p' b' l1 l2 qa qb q o1 o2 => L3 p' b' l1 l2 qa qb q ((ho _ _ _).mp o1) ((ho _ _ _).mp o2), fun l' q1 q2 => ?_, fun p' b' l1 b2 l2 q1 q2 q3 q4 q5 q6 q7 o1 o2 => L5 p' b' l1 b2 l2 q1 q2 q3 q4 q5 q6 q7 ((ho _ _ _).mp o1) ((ho _ _ _).mp o2), fun p' b' l' q1 q2 q3 q4 o => L6 p' b' l' q1 q2 q3 q4 ((ho _ _ _).mp o), TT⟩
  · have o' := (ho _ _ _).mp o
    have r := L1 p' b' l' q1 q2 q3 q4 o'
    refine ⟨r.1, ?_, fun m m1 m2 => ?_⟩
    · rw [gU_at]; split
      · exact x1
      · exact r.2.1
    · by_cases he : 64 * p' + b' = 64 * p + b
      · obtain ⟨rfl, rfl⟩ := idx_inj hb hb2 q3 q4 he
        obtain rfl := L3 p' b' l' l q1 q2 hb o' hl
        rw [gU_e, gU_k (show (8 : Nat) ≠ 9 by decide), x2 m m1 m2]
        by_cases hm : m = k
        · subst hm
          rw [if_pos rfl, gU_e, gU_e]
          exact Or.inr ⟨rfl, rfl, hv, hv2⟩
        · rw [if_neg hm, gU_i (by omega), gU_i (by omega)]
          exact r.2.2 m m1 m2
      · have hne : l' ≠ l := fun e => by
          subst e
          have := On.inj hS o' hl
          exact he (by rw [this.1, this.2])
        rw [gU_i hne, gU_k (show (8 : Nat) ≠ 9 by decide), gU_k (show (9 : Nat) ≠ 8 by decide), gU_i (by omega), gU_i (by omega)]
        exact r.2.2 m m1 m2
  · exact (L2 p' b' q1 q2 q3 q4).imp id fun ⟨l', q⟩ => ⟨l', (ho _ _ _).mpr q⟩
  · rcases L4 l' q1 q2 with q | ⟨q, p', q', q''⟩
    · exact Or.inl q
    · exact Or.inr ⟨q, p', q', (ho _ _ _).mpr q''⟩
/-- a block is taken from the other processor -/
theorem taken_B {e i : Int} {σ τ : gM} (h : LnB (fun _ => False) e σ τ) : LnB (fun _ => False) e (gU σ 14 i 1) (gU τ 11 i 1) := by
  obtain ⟨n1, n2, n3, n4, n5, n6, n7⟩ := h
  refine ⟨n1, n2, fun j j1 j2 j3 j4 => ?_, n4, n5, n6, n7⟩
  rw [gU_at, gU_at]
  by_cases c : j = i
  · rw [if_pos c, if_pos c]; exact ⟨rfl, Or.inr rfl⟩
  · rw [if_neg c, if_neg c]; exact n3 j j1 j2 j3 j4
theorem write_R {B p a v : Int} {σ τ : gM} (h0 : R0 B σ τ) (hL : Ln B σ τ) (hp : 0 ≤ p) (hp2 : p < 2) (ha : 0 ≤ a) (ha2 : a < 512) (hv : 0 ≤ v) (hv2 : v ≤ 255) (hB : B + 60 ≤ 1073741824) :
    Sim (F_Ca_change σ p a v) (F_Mo_writeByte τ p a v) (fun s r s' r' => R0 (B + 60) s s' ∧ Ln (B + 60) s s' ∧ FrM σ τ s s' ∧ s' 0 18 = τ 0 18 + 1) := by
  obtain ⟨b, hb⟩ : ∃ b, b = a / 8 := ⟨_, rfl⟩
  have hb1 : 0 ≤ b := by omega
  have hb2 : b < 64 := by omega
  obtain ⟨s, r, s', l, e1, e2, q1, q2, q3, q4, q5, q6⟩ := ask_R h0 hL hp hp2 ha ha2 (by omega)
  rw [← hb] at q3
  have hbd := q3.bd q2.1.1.1 hp hp2
  unfold F_Ca_change F_Mo_writeByte
  rw [gk_e e1, gk_e e2, gd_p (by omega), gv_p, ga_p (by omega), ← hb, show p * 64 = 64 * p by omega, ga_p (by omega), gk_e (twin_e hp hp2 hb1 hb2), ga_p (by omega), gd_p (by omega), gi_p (by omega)]
  -- behind the taking
  have rest : ∀ t t', R0 (B + 50) t t' → LnA (B + 50) (-1) t t' → LnB (fun _ => False) (-1) t t' → On t' p b l → FrM s s' t t' → t' 0 18 = s' 0 18 → Sim (j_Ca_change_55 t a v b (64 * p + b)) (j_Mo_writeByte_54 t' a v l) (fun s r s' r' => R0 (B + 60) s s' ∧ Ln (B + 60) s s' ∧ FrM σ τ s s' ∧ s' 0 18 = τ 0 18 + 1) := by
    intro t t' rt At Nt ot ft t18
    have hl9 := (At.2.1 p b l hp hp2 hb1 hb2 ot).2.1
    unfold j_Ca_change_55 j_Mo_writeByte_54
    rw [ga_p (by omega), gd_p (by omega), ga_p (by omega), gw_p (by omega), gi_p (by omega), ga_p (by omega), gd_p (by omega), ga_p (by omega), gw_p (by omega), gw_p (by omega), gi_p hbd, gd_p (by omega), gw_p hbd, show (64 * p + b) * 8 + a % 8 = 8 * (64 * p + b) + a % 8 by omega, gU_k (show (9 : Nat) ≠ 8 by decide)]
    have A2 := byte_A At hp hp2 hb1 hb2 ot (show 0 ≤ a % 8 by omega) (by omega) hv hv2
    have r2 : R0 (B + 50) (gU t 11 (8 * (64 * p + b) + a % 8) v) (gU (gU t' 8 (8 * l + a % 8) v) 9 l (gAnd (t' 9 l) (gXor (gShl 1 (a % 8)) (-1)))) := ((rt.upC (by decide)).upM (by decide)).upM (by decide)
    have N2 : LnB (fun _ => False) (-1) (gU t 11 (8 * (64 * p + b) + a % 8) v) (gU (gU t' 8 (8 * l + a % 8) v) 9 l (gAnd (t' 9 l) (gXor (gShl 1 (a % 8)) (-1)))) := Nt
    have o2 : On (gU (gU t' 8 (8 * l + a % 8) v) 9 l (gAnd (t' 9 l) (gXor (gShl 1 (a % 8)) (-1)))) p b l := ot
    have f2 : FrM t t' (gU t 11 (8 * (64 * p + b) + a % 8) v) (gU (gU t' 8 (8 * l + a % 8) v) 9 l (gAnd (t' 9 l) (gXor (gShl 1 (a % 8)) (-1)))) := ⟨fun k a b c d e f g h i j l m n => by rw [gU_k h], by rw [gU_k (by decide)], fun j _ => by rw [gU_k (by decide)], fun k a b c d e f g => by rw [gU_k (by omega), gU_k (by omega)], fun j _ _ => by rw [gU_k (by decide), gU_k (by decide)]⟩
    have k18 : gU (gU t' 8 (8 * l + a % 8) v) 9 l (gAnd (t' 9 l) (gXor (gShl 1 (a % 8)) (-1))) 0 18 = t' 0 18 := rfl
    generalize gU t 11 (8 * (64 * p + b) + a % 8) v = u at A2 r2 N2 f2 ⊢
    generalize gU (gU t' 8 (8 * l + a % 8) v) 9 l (gAnd (t' 9 l) (gXor (gShl 1 (a % 8)) (-1))) = u' at A2 r2 N2 o2 f2 k18 ⊢
    rw [r2.2.1.2.1.1]
    by_cases hlate : u' 0 8 = 1
    · rw [if_pos hlate, if_pos hlate, gwb_p ⟨hbd, by decide⟩]
      refine sim_ret ⟨(r2.mono (by omega)).up (by decide) (by decide), ⟨(dirty_A A2 hp hp2 hb1 hb2 o2 (Or.inr rfl)).mono (by omega), ?_⟩, q5.trans (ft.trans (f2.trans ?_)), ?_⟩
      · exact N2
      · exact ⟨fun k a b c d e f g h i j l m n => by rw [gU_k g], by rw [gU_k (by decide)], fun j _ => by rw [gU_k (by decide)], fun k a b c d e f g => by rw [gU_k (by omega)], fun j _ _ => by rw [gU_k (by decide)]⟩
      · show u' 0 18 = _; rw [k18, t18, q6]
    · rw [if_neg hlate, if_neg hlate, gd_p (by omega), ← hb]
      refine sim_open r2 hb1 hb2 (by omega) fun w w' r3 f3 => ?_
      refine sim_spend r3 (by decide) (by decide) (by decide) (by omega) fun x x' r4 f4 => ?_
      have f34 := f3.trans f4
      obtain ⟨c1, c2⟩ := cC_ok hv (show v < 256 by omega)
      rw [gk_e (coded_i hv (by omega)), gk_e (code_i hv (by omega)), gw_p ⟨ha, ha2⟩, gw_p ⟨ha, ha2⟩]
      obtain ⟨r5, f5⟩ := bits_R (a := a) r4 c1 c2
      have f345 := f34.trans f5
      exact sim_ret ⟨r5.mono (by omega), ⟨(A2.sm f345.smA).mono (by omega), N2.sm f345.smA⟩, q5.trans (ft.trans (f2.trans f345.frV.frM)), by
        show x' 0 18 = _
        rw [f34.2.2.2 18 (by decide), k18, t18, q6]⟩
  rcases find_R q2.1 (show 0 ≤ 1 - p by omega) (by omega) hb1 hb2 with ⟨z1, z2, z3⟩ | ⟨l', l1, l2, l3, l4, l5⟩
  · rw [if_pos z1, gk_e z2, if_pos rfl]
    exact rest s s' q1 q2.1 q2.2 q3 (FrM.refl _ _) rfl
  · rw [if_neg (show ¬ s 10 (64 * (1 - p) + b) = 0 by omega), gk_e l3, if_neg (show ¬ l' = -4 by omega), gw_p (by omega), gwb_p ⟨by omega, by decide⟩, gw_p l1, ga_p (by omega), ga_p (by omega), gd_p (by omega), ga_p (by omega), gwb_p ⟨by omega, by decide⟩]
    have hne : l' ≠ l := fun e => by
      subst e
      have := (On.inj q2.1.1.1 l2 q3).1
      omega
    have A2 := rem_A q2.1 hb1 hb2 l2
    have TT := A2.2.2.2.2.2.2.2
    refine rest _ _ ((q1.up (by decide) (by decide)).up (by decide) (by decide)) ?_ (taken_B q2.2) ((On_rem hb1).mpr ⟨q3, Ne.symm hne⟩) ⟨fun k a b c d e f g h i j l m n => by rw [gU_k l, gU_k g], by rw [gU_k (by decide), gU_k (by decide)], fun j _ => by rw [gU_k (by decide), gU_k (by decide)], fun k a b c d e f g => by rw [gU_k (by omega), gU_k (by omega)], fun j _ _ => by rw [gU_k (by decide), gU_k (by decide)]⟩ rfl
    obtain ⟨B1, B2, B3, B4, B5, B6, B7, B8⟩ := A2
    refine ⟨B1, B2, B3, B4, B5, B6, B7, fun i i1 i2 => ?_⟩
    rw [gU_k (by decide), gU_at]
    by_cases c : i = 64 * (1 - p) + b
    · rw [if_pos c]; exact Or.inl rfl
    · rw [if_neg c]
      have := TT i i1 i2
      rw [gU_i c, gU_k (show (14 : Nat) ≠ 10 by decide)] at this
      rw [gU_i c, gU_k (show (14 : Nat) ≠ 10 by decide)]
      exact this
