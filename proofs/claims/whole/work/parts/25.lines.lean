/-! lines: how the class' blocks and the model's ways hang together -/
def gBt (x k : Int) : Int := gAnd (gShr x k) 1
theorem gBt_n {x k : Nat} (hx : x < 2147483648) (hk : k < 32) : gBt (x : Int) (k : Int) = ((x / 2 ^ k % 2 : Nat) : Int) := gbit hx hk
theorem gBt_or_all : ∀ x, x < 256 → ∀ k, k < 8 → (x ||| 2 ^ k) < 256 ∧ ∀ j, j < 8 → (x ||| 2 ^ k) / 2 ^ j % 2 = if j = k then 1 else x / 2 ^ j % 2 := by decide +kernel
theorem gBt_an_all : ∀ x, x < 256 → ∀ k, k < 8 → gAnd ((x : Nat) : Int) (gXor (gShl 1 ((k : Nat) : Int)) (-1)) = ((x &&& (255 - 2 ^ k) : Nat) : Int) := by decide +kernel
theorem gBt_an_all2 : ∀ x, x < 256 → ∀ k, k < 8 → (x &&& (255 - 2 ^ k)) < 256 ∧ ∀ j, j < 8 → (x &&& (255 - 2 ^ k)) / 2 ^ j % 2 = if j = k then 0 else x / 2 ^ j % 2 := by decide +kernel
theorem gBt_01 {x k : Int} (hx : 0 ≤ x) (hx2 : x < 256) (hk : 0 ≤ k) (hk2 : k < 8) : gBt x k = 0 ∨ gBt x k = 1 := by
  obtain ⟨n, rfl⟩ : ∃ n : Nat, x = (n : Int) := ⟨x.toNat, by omega⟩
  obtain ⟨m, rfl⟩ : ∃ n : Nat, k = (n : Int) := ⟨k.toNat, by omega⟩
  rw [gBt_n (by omega) (by omega)]
  omega
theorem gBt_0 {k : Int} (hk : 0 ≤ k) (hk2 : k < 8) : gBt 0 k = 0 := by
  obtain ⟨m, rfl⟩ : ∃ n : Nat, k = (n : Int) := ⟨k.toNat, by omega⟩
  rw [show (0 : Int) = ((0 : Nat) : Int) from rfl, gBt_n (by omega) (by omega), Nat.zero_div]
theorem gBt_or {x k : Int} (hx : 0 ≤ x) (hx2 : x < 256) (hk : 0 ≤ k) (hk2 : k < 8) : (0 ≤ gOr x (gShl 1 k) ∧ gOr x (gShl 1 k) < 256) ∧ ∀ j, 0 ≤ j → j < 8 → gBt (gOr x (gShl 1 k)) j = if j = k then 1 else gBt x j := by
  obtain ⟨n, rfl⟩ : ∃ n : Nat, x = (n : Int) := ⟨x.toNat, by omega⟩
  obtain ⟨m, rfl⟩ : ∃ n : Nat, k = (n : Int) := ⟨k.toNat, by omega⟩
  have hm : 2 ^ m < 256 := Nat.lt_of_lt_of_le (Nat.pow_lt_pow_right (by decide) (show m < 8 by omega)) (by decide)
  obtain ⟨h1, h2⟩ := gBt_or_all n (by omega) m (by omega)
  rw [gShl1 m (by omega), gOr_n (by omega) (by omega)]
  refine ⟨by omega, fun j hj hj2 => ?_⟩
  obtain ⟨i, rfl⟩ : ∃ n : Nat, j = (n : Int) := ⟨j.toNat, by omega⟩
  rw [gBt_n (by omega) (by omega), gBt_n (by omega) (by omega), h2 i (by omega)]
  by_cases q : i = m
  · rw [if_pos q, if_pos (by omega)]; rfl
  · rw [if_neg q, if_neg (by omega)]
theorem gOr_0 {x : Int} (hx : 0 ≤ x) (hx2 : x < 256) : gOr x 0 = x := by
  obtain ⟨n, rfl⟩ : ∃ n : Nat, x = (n : Int) := ⟨x.toNat, by omega⟩
  rw [show (0 : Int) = ((0 : Nat) : Int) from rfl, gOr_n (by omega) (by omega), Nat.or_zero]
theorem gBt_an {x k : Int} (hx : 0 ≤ x) (hx2 : x < 256) (hk : 0 ≤ k) (hk2 : k < 8) : (0 ≤ gAnd x (gXor (gShl 1 k) (-1)) ∧ gAnd x (gXor (gShl 1 k) (-1)) < 256) ∧ ∀ j, 0 ≤ j → j < 8 → gBt (gAnd x (gXor (gShl 1 k) (-1))) j = if j = k then 0 else gBt x j := by
  obtain ⟨n, rfl⟩ : ∃ n : Nat, x = (n : Int) := ⟨x.toNat, by omega⟩
  obtain ⟨m, rfl⟩ : ∃ n : Nat, k = (n : Int) := ⟨k.toNat, by omega⟩
  obtain ⟨h1, h2⟩ := gBt_an_all2 n (by omega) m (by omega)
  rw [gBt_an_all n (by omega) m (by omega)]
  refine ⟨by omega, fun j hj hj2 => ?_⟩
  obtain ⟨i, rfl⟩ : ∃ n : Nat, j = (n : Int) := ⟨j.toNat, by omega⟩
  rw [gBt_n (by omega) (by omega), gBt_n (by omega) (by omega), h2 i (by omega)]
  by_cases q : i = m
  · rw [if_pos q, if_pos (by omega)]; rfl
  · rw [if_neg q, if_neg (by omega)]
/-- where a block's set begins among the model's lines -/
def sb (τ : gM) (p b : Int) : Int := 16 * p + τ 0 6 * (b % τ 0 5)
def Shp (τ : gM) : Prop := (τ 0 5 = 1 ∨ τ 0 5 = 2 ∨ τ 0 5 = 4) ∧ (τ 0 6 = 1 ∨ τ 0 6 = 2 ∨ τ 0 6 = 3 ∨ τ 0 6 = 4)
def On (τ : gM) (p b l : Int) : Prop := sb τ p b ≤ l ∧ l < sb τ p b + τ 0 6 ∧ τ 4 l = b
theorem sb_bd {τ : gM} (h : Shp τ) (p b : Int) : 16 * p ≤ sb τ p b ∧ sb τ p b + τ 0 6 ≤ 16 * p + 16 := by
  unfold sb
  obtain ⟨h1, h2⟩ := h
  rcases h1 with h1 | h1 | h1 <;> rcases h2 with h2 | h2 | h2 | h2 <;> rw [h1, h2] <;> omega
theorem sb_ap {τ : gM} (h : Shp τ) {p b p' b' l : Int} (h1 : sb τ p b ≤ l) (h2 : l < sb τ p b + τ 0 6) (h3 : sb τ p' b' ≤ l) (h4 : l < sb τ p' b' + τ 0 6) : p = p' ∧ b % τ 0 5 = b' % τ 0 5 := by
  have q1 := sb_bd h p b
  have q2 := sb_bd h p' b'
  have hp : p = p' := by omega
  refine ⟨hp, ?_⟩
  subst hp
  unfold sb at *
  obtain ⟨s1, s2⟩ := h
  rcases s1 with s1 | s1 | s1 <;> rcases s2 with s2 | s2 | s2 | s2 <;> rw [s1, s2] at h1 h2 h3 h4 <;> rw [s1] <;> omega
theorem sb_eq {τ : gM} {p b b' : Int} (h : b % τ 0 5 = b' % τ 0 5) : sb τ p b = sb τ p b' := by unfold sb; rw [h]
theorem On.bd {τ : gM} (hs : Shp τ) {p b l : Int} (h : On τ p b l) (hp : 0 ≤ p) (hp2 : p < 2) : 0 ≤ l ∧ l < 32 := by
  have q := sb_bd hs p b
  have h1 := h.1
  have h2 := h.2.1
  omega
theorem On.inj {τ : gM} (hs : Shp τ) {p b p' b' l : Int} (h : On τ p b l) (h' : On τ p' b' l) : p = p' ∧ b = b' :=
  ⟨(sb_ap hs h.1 h.2.1 h'.1 h'.2.1).1, h.2.2.symm.trans h'.2.2⟩
/-- a line's bytes -/
def Byt (σ τ : gM) (i l : Int) : Prop := ∀ k, 0 ≤ k → k < 8 → (σ 11 (8 * i + k) = -5 ∧ gBt (τ 9 l) k = 1) ∨ (gBt (τ 9 l) k = 0 ∧ σ 11 (8 * i + k) = τ 8 (8 * l + k) ∧ 0 ≤ τ 8 (8 * l + k) ∧ τ 8 (8 * l + k) ≤ 255)
/-- lines; the one of block e (64 p + b) isn't asked yet -/
def LnA (B : Int) (e : Int) (σ τ : gM) : Prop :=
  (Shp τ ∧ σ 9 7 = τ 0 5 ∧ σ 9 8 = τ 0 6 ∧ (0 ≤ σ 9 9 ∧ σ 9 9 ≤ B) ∧ (0 ≤ τ 0 18 ∧ τ 0 18 ≤ B)) ∧
  (∀ p b l, 0 ≤ p → p < 2 → 0 ≤ b → b < 64 → On τ p b l → (σ 10 (64 * p + b) = 1 + τ 5 l ∧ (τ 5 l = 0 ∨ τ 5 l = 1)) ∧ (0 ≤ τ 9 l ∧ τ 9 l < 256) ∧ Byt σ τ (64 * p + b) l) ∧
  (∀ p b, 0 ≤ p → p < 2 → 0 ≤ b → b < 64 → σ 10 (64 * p + b) = 0 ∨ ∃ l, On τ p b l) ∧
  (∀ p b l l', 0 ≤ p → p < 2 → 0 ≤ b → On τ p b l → On τ p b l' → l = l') ∧
  (∀ l, 0 ≤ l → l < 32 → τ 4 l = -4 ∨ ((0 ≤ τ 4 l ∧ τ 4 l < 64) ∧ ∃ p, (0 ≤ p ∧ p < 2) ∧ On τ p (τ 4 l) l)) ∧
  (∀ p b l b' l', 0 ≤ p → p < 2 → 0 ≤ b → b < 64 → 0 ≤ b' → b' < 64 → b ≠ b' → On τ p b l → On τ p b' l' →
    (σ 12 (64 * p + b) ≠ σ 12 (64 * p + b') ∧ (τ 7 l < τ 7 l' ↔ σ 12 (64 * p + b) < σ 12 (64 * p + b'))) ∧
    (64 * p + b ≠ e → 64 * p + b' ≠ e → σ 13 (64 * p + b) ≠ σ 13 (64 * p + b') ∧ (τ 6 l < τ 6 l' ↔ σ 13 (64 * p + b) < σ 13 (64 * p + b')))) ∧
  (∀ p b l, 0 ≤ p → p < 2 → 0 ≤ b → b < 64 → On τ p b l → τ 7 l ≤ τ 0 18 ∧ σ 12 (64 * p + b) ≤ σ 9 9 ∧ (64 * p + b ≠ e → τ 6 l ≤ τ 0 18 ∧ σ 12 (64 * p + b) < σ 9 9)) ∧
  (∀ i, 0 ≤ i → i < 128 → σ 10 i = 0 ∨ σ 14 i = 0)
/-- what is remembered of blocks; of those in E the class has forgotten already -/
def gcnt (f : Int → Int) : Nat → Int
  | 0 => 0
  | n + 1 => gcnt f n + f (n : Int)
def LnB (E : Int → Prop) (e : Int) (σ τ : gM) : Prop :=
  (∀ i, 0 ≤ i → i < 128 → 0 ≤ σ 13 i ∧ σ 13 i ≤ σ 9 9) ∧
  (∀ i, 0 ≤ i → i < 128 → ¬ E i → (τ 10 i = 1 ∧ 1 ≤ σ 13 i) ∨ (τ 10 i = 0 ∧ σ 13 i = 0)) ∧
  (∀ i, 0 ≤ i → i < 128 → ¬ E i → i ≠ e → σ 14 i = τ 11 i ∧ (τ 11 i = 0 ∨ τ 11 i = 1)) ∧
  (∀ i, 0 ≤ i → i < 128 → ¬ E i → (σ 15 i = 1 ∧ 1 ≤ τ 12 i ∧ 1 ≤ σ 13 i ∧ τ 12 i ≤ τ 0 18) ∨ (σ 15 i = 0 ∧ τ 12 i = 0)) ∧
  (∀ i, 0 ≤ i → i < 128 → E i → σ 15 i = 0) ∧
  (∀ p b b', 0 ≤ p → p < 2 → 0 ≤ b → b < 64 → 0 ≤ b' → b' < 64 → σ 15 (64 * p + b) = 1 → σ 15 (64 * p + b') = 1 → (τ 12 (64 * p + b) < τ 12 (64 * p + b') ↔ σ 13 (64 * p + b) < σ 13 (64 * p + b'))) ∧
  (∀ p, 0 ≤ p → p < 2 → σ 16 p = gcnt (fun b => σ 15 (64 * p + b)) 64 ∧ σ 16 p ≤ τ 0 5 * τ 0 6)
theorem LnA.mono {B B' e : Int} {σ τ : gM} (h : LnA B e σ τ) (hb : B ≤ B') : LnA B' e σ τ :=
  ⟨⟨h.1.1, h.1.2.1, h.1.2.2.1, ⟨h.1.2.2.2.1.1, Int.le_trans h.1.2.2.2.1.2 hb⟩, h.1.2.2.2.2.1, Int.le_trans h.1.2.2.2.2.2 hb⟩, h.2⟩
/-- what the lines' part reads -/
def SmA (σ τ s s' : gM) : Prop := (s 9 = σ 9 ∧ s 10 = σ 10 ∧ s 11 = σ 11 ∧ s 12 = σ 12 ∧ s 13 = σ 13 ∧ s 14 = σ 14 ∧ s 15 = σ 15 ∧ s 16 = σ 16) ∧
  (s' 4 = τ 4 ∧ s' 5 = τ 5 ∧ s' 6 = τ 6 ∧ s' 7 = τ 7 ∧ s' 8 = τ 8 ∧ s' 9 = τ 9 ∧ s' 10 = τ 10 ∧ s' 11 = τ 11 ∧ s' 12 = τ 12) ∧ s' 0 5 = τ 0 5 ∧ s' 0 6 = τ 0 6 ∧ s' 0 18 = τ 0 18
theorem Fr0.smA {σ τ s s' : gM} (h : Fr0 σ τ s s') : SmA σ τ s s' := by
  obtain ⟨h1, -, h2, h3⟩ := h
  refine ⟨⟨?_, ?_, ?_, ?_, ?_, ?_, ?_, ?_⟩, ⟨?_, ?_, ?_, ?_, ?_, ?_, ?_, ?_, ?_⟩, h3 5 (by decide), h3 6 (by decide), h3 18 (by decide)⟩
  all_goals first
    | exact h1 _ (by decide) (by decide) (by decide) (by decide) (by decide)
    | exact h2 _ (by decide) (by decide) (by decide) (by decide) (by decide) (by decide)
theorem On_sm {τ s' : gM} {p b l : Int} (h4 : s' 4 = τ 4) (h5 : s' 0 5 = τ 0 5) (h6 : s' 0 6 = τ 0 6) : On s' p b l ↔ On τ p b l := by
  unfold On sb
  rw [h4, h5, h6]
theorem LnA.sm {B e : Int} {σ τ s s' : gM} (h : LnA B e σ τ) (q : SmA σ τ s s') : LnA B e s s' := by
  obtain ⟨⟨a9, a10, a11, a12, a13, a14, a15, a16⟩, ⟨c4, c5, c6, c7, c8, c9, c10, c11, c12⟩, d5, d6, d18⟩ := q
  unfold LnA Shp Byt
  simp only [On_sm c4 d5 d6, a9, a10, a11, a12, a13, a14, c4, c5, c6, c7, c8, c9, d5, d6, d18]
  exact h
theorem LnB.sm {E : Int → Prop} {e : Int} {σ τ s s' : gM} (h : LnB E e σ τ) (q : SmA σ τ s s') : LnB E e s s' := by
  obtain ⟨⟨a9, a10, a11, a12, a13, a14, a15, a16⟩, ⟨c4, c5, c6, c7, c8, c9, c10, c11, c12⟩, d5, d6, d18⟩ := q
  unfold LnB
  simp only [a9, a13, a14, a15, a16, c10, c11, c12, d5, d6, d18]
  exact h
/-- the model's search -/
theorem find_n {τ : gM} {p b : Int} (hs : Shp τ) (hp : 0 ≤ p) (hp2 : p < 2) (hb : 0 ≤ b) (hb2 : b < 64) (h : ∀ l, ¬ On τ p b l) : F_Mo_find τ p b = some (τ, -4) := by
  have q := sb_bd hs p b
  have hS : 0 < τ 0 5 := by rcases hs.1 with h | h | h <;> omega
  have hW : 0 < τ 0 6 ∧ τ 0 6 < 5 := by rcases hs.2 with h | h | h | h <;> omega
  unfold F_Mo_find
  refine to_gl1 (lo := 0) (hi := τ 0 6) (R := fun o => o = some (τ, -4)) (fun j s => s = τ) ?_ ?_ 200 0 τ (by omega) (by omega) (by omega) rfl
  · rintro rec j s h1 h2 rfl ih
    unfold l_Mo_find_2
    have hq : 16 * p + s 0 6 * (b % s 0 5) = sb s p b := rfl
    rw [if_pos h2, ga_p (by omega), gd_p ⟨hb, hS⟩, ga_p (by omega), ga_p (by omega), hq, ga_p (by omega), gi_p (by omega), if_neg (fun e => h (sb s p b + j) ⟨by omega, by omega, e⟩), ga_p (by omega)]
    exact ih s rfl
  · rintro rec s rfl
    unfold l_Mo_find_2
    rw [if_neg (Int.lt_irrefl _)]
theorem find_y {τ : gM} {p b l : Int} (hs : Shp τ) (hp : 0 ≤ p) (hp2 : p < 2) (hb : 0 ≤ b) (hb2 : b < 64) (hu : ∀ l', On τ p b l' → l' = l) (h : On τ p b l) : F_Mo_find τ p b = some (τ, l) := by
  have q := sb_bd hs p b
  have hS : 0 < τ 0 5 := by rcases hs.1 with h | h | h <;> omega
  have hW : 0 < τ 0 6 ∧ τ 0 6 < 5 := by rcases hs.2 with h | h | h | h <;> omega
  have h1' := h.1
  have h2' := h.2.1
  unfold F_Mo_find
  refine to_gl1 (lo := 0) (hi := l - sb τ p b) (R := fun o => o = some (τ, l)) (fun j s => s = τ) ?_ ?_ 200 0 τ (by omega) (by omega) (by omega) rfl
  · rintro rec j s h1 h2 rfl ih
    unfold l_Mo_find_2
    have hq : 16 * p + s 0 6 * (b % s 0 5) = sb s p b := rfl
    rw [if_pos (by omega), ga_p (by omega), gd_p ⟨hb, hS⟩, ga_p (by omega), ga_p (by omega), hq, ga_p (by omega), gi_p (by omega), if_neg (fun e => by have := hu (sb s p b + j) ⟨by omega, by omega, e⟩; omega), ga_p (by omega)]
    exact ih s rfl
  · rintro rec s rfl
    unfold l_Mo_find_2
    have hq : 16 * p + s 0 6 * (b % s 0 5) = sb s p b := rfl
    rw [if_pos (by omega), ga_p (by omega), gd_p ⟨hb, hS⟩, ga_p (by omega), ga_p (by omega), hq, ga_p (by omega), gi_p (by omega), if_pos (by rw [show sb s p b + (l - sb s p b) = l by omega]; exact h.2.2)]
    rw [show sb s p b + (l - sb s p b) = l by omega]
theorem find_R {B e p b : Int} {σ τ : gM} (h : LnA B e σ τ) (hp : 0 ≤ p) (hp2 : p < 2) (hb : 0 ≤ b) (hb2 : b < 64) :
    (σ 10 (64 * p + b) = 0 ∧ F_Mo_find τ p b = some (τ, -4) ∧ ∀ l, ¬ On τ p b l) ∨ ∃ l, (0 ≤ l ∧ l < 32) ∧ On τ p b l ∧ F_Mo_find τ p b = some (τ, l) ∧ σ 10 (64 * p + b) = 1 + τ 5 l ∧ (τ 5 l = 0 ∨ τ 5 l = 1) := by
  obtain ⟨hA, hL1, hL2, hL3, -⟩ := h
  by_cases hx : ∃ l, On τ p b l
  · obtain ⟨l, hl⟩ := hx
    have := hL1 p b l hp hp2 hb hb2 hl
    exact Or.inr ⟨l, hl.bd hA.1 hp hp2, hl, find_y hA.1 hp hp2 hb hb2 (fun l' h' => hL3 p b l' l hp hp2 hb h' hl) hl, this.1.1, this.1.2⟩
  · have hn : ∀ l, ¬ On τ p b l := fun l q => hx ⟨l, q⟩
    rcases hL2 p b hp hp2 hb hb2 with h0 | h0
    · exact Or.inl ⟨h0, find_n hA.1 hp hp2 hb hb2 hn, hn⟩
    · exact absurd h0 hx
