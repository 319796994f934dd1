/-! which line makes way -/
theorem gcnt_congr {f g : Int → Int} : ∀ n : Nat, (∀ b : Int, 0 ≤ b → b < n → f b = g b) → gcnt f n = gcnt g n
  | 0, _ => rfl
  | n + 1, h => by
    rw [gcnt.eq_2, gcnt.eq_2, gcnt_congr n (fun b h1 h2 => h b h1 (by omega)), h n (by omega) (by omega)]
theorem gcnt_zero {f : Int → Int} : ∀ n : Nat, (∀ b : Int, 0 ≤ b → b < n → f b = 0) → gcnt f n = 0
  | 0, _ => rfl
  | n + 1, h => by
    rw [gcnt.eq_2, gcnt_zero n (fun b h1 h2 => h b h1 (by omega)), h n (by omega) (by omega)]
    rfl
theorem gcnt_one {f : Int → Int} {c : Int} : ∀ n : Nat, 0 ≤ c → c < n → (∀ b : Int, 0 ≤ b → b < n → f b = if b = c then 1 else 0) → gcnt f n = 1
  | 0, h0, h1, _ => by omega
  | n + 1, h0, h1, h => by
    rw [gcnt.eq_2, h n (by omega) (by omega)]
    by_cases hc : (n : Int) = c
    · rw [if_pos hc, gcnt_zero n (fun b h1 h2 => by rw [h b h1 (by omega), if_neg (by omega)])]
      rfl
    · rw [if_neg hc, gcnt_one n h0 (by omega) (fun b h1 h2 => h b h1 (by omega))]
      rfl
theorem gcnt_add {f g : Int → Int} : ∀ n : Nat, gcnt (fun b => f b + g b) n = gcnt f n + gcnt g n
  | 0 => rfl
  | n + 1 => by
    rw [gcnt.eq_2, gcnt.eq_2, gcnt.eq_2, gcnt_add n]
    omega
theorem gcnt_swap {g : Int → Int → Int} (m : Nat) : ∀ n : Nat, gcnt (fun b => gcnt (fun w => g b w) n) m = gcnt (fun w => gcnt (fun b => g b w) m) n
  | 0 => gcnt_zero m fun _ _ _ => rfl
  | n + 1 => by
    rw [gcnt.eq_2, ← gcnt_swap m n, ← gcnt_add]
    rfl
theorem gcnt_le {f : Int → Int} : ∀ n : Nat, (∀ b : Int, 0 ≤ b → b < n → 0 ≤ f b ∧ f b ≤ 1) → 0 ≤ gcnt f n ∧ gcnt f n ≤ n
  | 0, _ => ⟨Int.le_refl 0, Int.le_refl 0⟩
  | n + 1, h => by
    have ih := gcnt_le n (fun b h1 h2 => h b h1 (by omega))
    have := h n (by omega) (by omega)
    rw [gcnt.eq_2]
    omega
theorem gcnt_lt {f : Int → Int} {c : Int} : ∀ n : Nat, 0 ≤ c → c < n → f c = 0 → (∀ b : Int, 0 ≤ b → b < n → 0 ≤ f b ∧ f b ≤ 1) → gcnt f n < n
  | 0, h0, h1, _, _ => by omega
  | n + 1, h0, h1, hc, h => by
    have hle := gcnt_le n (fun b h1 h2 => h b h1 (by omega))
    have hn := h n (by omega) (by omega)
    rw [gcnt.eq_2]
    by_cases q : (n : Int) = c
    · rw [q, hc]; omega
    · have := gcnt_lt n h0 (by omega) hc (fun b h1 h2 => h b h1 (by omega))
      omega
theorem gcnt_all {f : Int → Int} : ∀ n : Nat, (∀ b : Int, 0 ≤ b → b < n → f b = 1) → gcnt f n = n
  | 0, _ => rfl
  | n + 1, h => by
    rw [gcnt.eq_2, gcnt_all n (fun b h1 h2 => h b h1 (by omega)), h n (by omega) (by omega)]
    omega
theorem gAnd_set : ∀ a, a < 128 → gAnd ((a : Nat) : Int) 0 = 0 ∧ gAnd ((a : Nat) : Int) 1 = ((a % 2 : Nat) : Int) ∧ gAnd ((a : Nat) : Int) 3 = ((a % 4 : Nat) : Int) := by decide +kernel
theorem set_e {S a : Int} (hS : S = 1 ∨ S = 2 ∨ S = 4) (ha : 0 ≤ a) (ha2 : a < 128) : gAnd a (S - 1) = a % S := by
  obtain ⟨n, rfl⟩ : ∃ n : Nat, a = (n : Int) := ⟨a.toNat, by omega⟩
  obtain ⟨h1, h2, h3⟩ := gAnd_set n (by omega)
  rcases hS with rfl | rfl | rfl
  · rw [show (1 : Int) - 1 = 0 from rfl, h1]; omega
  · rw [show (2 : Int) - 1 = 1 from rfl, h2]; omega
  · rw [show (4 : Int) - 1 = 3 from rfl, h3]; omega
def kyC (σ : gM) (i : Int) : Int := if σ 1 0 = 0 then σ 13 i else if σ 1 0 = 1 then σ 12 i else i
def kyM (τ : gM) (l : Int) : Int := if τ 0 7 = 0 then τ 6 l else if τ 0 7 = 1 then τ 7 l else τ 4 l
theorem ahead_e {σ : gM} {x y : Int} (hx : 0 ≤ x) (hx2 : x < 128) (hy : 0 ≤ y) (hy2 : y < 128) : F_Ca_goesAhead σ x y = some (σ, if kyC σ x < kyC σ y then 1 else 0) := by
  unfold F_Ca_goesAhead kyC
  rw [gi_p (by decide)]
  by_cases h0 : σ 1 0 = 0
  · rw [if_pos h0, if_pos h0, if_pos h0, gi_p ⟨hx, hx2⟩, gi_p ⟨hy, hy2⟩]
    split <;> rfl
  · rw [if_neg h0, if_neg h0, if_neg h0, gi_p (by decide)]
    by_cases h1 : σ 1 0 = 1
    · rw [if_pos h1, if_pos h1, if_pos h1, gi_p ⟨hx, hx2⟩, gi_p ⟨hy, hy2⟩]
      split <;> rfl
    · rw [if_neg h1, if_neg h1, if_neg h1]
      split <;> rfl
/-- the order of the two sides' keys -/
theorem key_R {B p b b' l l' : Int} {σ τ : gM} (h0 : R0 B σ τ) (hA : LnA B (-1) σ τ) (hp : 0 ≤ p) (hp2 : p < 2) (hb : 0 ≤ b) (hb2 : b < 64) (hb' : 0 ≤ b') (hb2' : b' < 64) (hne : b ≠ b') (hl : On τ p b l) (hl' : On τ p b' l') :
    kyC σ (64 * p + b) ≠ kyC σ (64 * p + b') ∧ (kyM τ l < kyM τ l' ↔ kyC σ (64 * p + b) < kyC σ (64 * p + b')) := by
  have h5 := hA.2.2.2.2.2.1 p b l b' l' hp hp2 hb hb2 hb' hb2' hne hl hl'
  have hw := h0.2.1.1.1
  unfold kyC kyM
  rw [hw]
  by_cases q0 : τ 0 7 = 0
  · rw [if_pos q0, if_pos q0, if_pos q0, if_pos q0]
    exact h5.2 (by omega) (by omega)
  · rw [if_neg q0, if_neg q0, if_neg q0, if_neg q0]
    by_cases q1 : τ 0 7 = 1
    · rw [if_pos q1, if_pos q1, if_pos q1, if_pos q1]
      exact h5.1
    · rw [if_neg q1, if_neg q1, if_neg q1, if_neg q1, hl.2.2, hl'.2.2]
      exact ⟨by omega, by omega⟩
/-- a block of the set that the processor has -/
def InS (σ τ : gM) (p b0 b : Int) : Prop := b % τ 0 5 = b0 % τ 0 5 ∧ σ 10 (64 * p + b) ≠ 0
theorem held_R {B e p b0 : Int} {σ τ : gM} (hA : LnA B e σ τ) (hp : 0 ≤ p) (hp2 : p < 2) (hb : 0 ≤ b0) (hb2 : b0 < 64) (ind : Int → Int) (hind : ∀ b, 0 ≤ b → b < 64 → (InS σ τ p b0 b → ind b = 1) ∧ (¬ InS σ τ p b0 b → ind b = 0)) :
    gcnt ind 64 = gcnt (fun w => if τ 4 (sb τ p b0 + w) = -4 then 0 else 1) (τ 0 6).toNat := by
  obtain ⟨⟨hS, h7, h8, h9, h18⟩, L1, L2, L3, L4, -⟩ := hA
  have hW : 0 < τ 0 6 ∧ τ 0 6 < 5 := by rcases hS.2 with h | h | h | h <;> omega
  have q := sb_bd hS p b0
  have e1 : gcnt ind 64 = gcnt (fun b => gcnt (fun w => if τ 4 (sb τ p b0 + w) = b then 1 else 0) (τ 0 6).toNat) 64 := by
    refine gcnt_congr 64 fun b h1 h2 => ?_
    by_cases hi : InS σ τ p b0 b
    · rw [(hind b h1 h2).1 hi]
      rcases L2 p b hp hp2 h1 h2 with z | ⟨l, hl⟩
      · exact absurd z hi.2
      · have hsb := sb_eq (τ := τ) (p := p) hi.1
        have r1 := hl.1
        have r2 := hl.2.1
        refine (gcnt_one (c := l - sb τ p b0) _ (by omega) (by omega) fun w w1 w2 => ?_).symm
        by_cases hw : w = l - sb τ p b0
        · rw [if_pos hw, hw, show sb τ p b0 + (l - sb τ p b0) = l by omega, if_pos hl.2.2]
        · rw [if_neg hw, if_neg]
          intro hx
          have := L3 p b l (sb τ p b0 + w) hp hp2 h1 hl ⟨by omega, by omega, hx⟩
          omega
    · rw [(hind b h1 h2).2 hi]
      refine (gcnt_zero _ fun w w1 w2 => ?_).symm
      rw [if_neg]
      intro hx
      refine hi ?_
      rcases L4 (sb τ p b0 + w) (by omega) (by omega) with z | ⟨z, p', hp', hon⟩
      · omega
      · rw [hx] at hon
        have := sb_ap hS hon.1 hon.2.1 (p' := p) (b' := b0) (by omega) (by omega)
        obtain ⟨rfl, hm⟩ := this
        refine ⟨hm, ?_⟩
        have := (L1 p' b _ hp hp2 h1 h2 hon).1
        omega
  rw [e1, gcnt_swap]
  refine gcnt_congr _ fun w w1 w2 => ?_
  by_cases hz : τ 4 (sb τ p b0 + w) = -4
  · rw [if_pos hz]
    exact gcnt_zero 64 fun b b1 b2 => by rw [if_neg (by omega)]
  · rw [if_neg hz]
    rcases L4 (sb τ p b0 + w) (by omega) (by omega) with z | ⟨z, -⟩
    · exact absurd z hz
    · refine gcnt_one (c := τ 4 (sb τ p b0 + w)) 64 z.1 z.2 fun b b1 b2 => ?_
      by_cases q : b = τ 4 (sb τ p b0 + w)
      · rw [if_pos q, if_pos q.symm]
      · rw [if_neg q, if_neg (fun z => q z.symm)]
/-- the class' search, whatever the set holds -/
theorem leavingFor_R {B p b0 : Int} {σ τ : gM} (h0 : R0 B σ τ) (hA : LnA B (-1) σ τ) (hp : 0 ≤ p) (hp2 : p < 2) (hb : 0 ≤ b0) (hb2 : b0 < 64) :
    ∃ a, F_Ca_leavingFor σ (64 * p + b0) = some (σ, a) ∧
      ((∃ l, sb τ p b0 ≤ l ∧ l < sb τ p b0 + τ 0 6 ∧ τ 4 l = -4) → a = -4) ∧
      ((¬ ∃ l, sb τ p b0 ≤ l ∧ l < sb τ p b0 + τ 0 6 ∧ τ 4 l = -4) → ∃ bx, 0 ≤ bx ∧ bx < 64 ∧ InS σ τ p b0 bx ∧ a = 64 * p + bx ∧ ∀ b, 0 ≤ b → b < 64 → InS σ τ p b0 b → b ≠ bx → kyC σ (64 * p + bx) < kyC σ (64 * p + b)) := by
  have hS := hA.1.1
  have h7 := hA.1.2.1
  have h8 := hA.1.2.2.1
  have hW : 0 < τ 0 6 ∧ τ 0 6 < 5 := by rcases hS.2 with h | h | h | h <;> omega
  have hSS : 0 < τ 0 5 ∧ τ 0 5 < 5 := by rcases hS.1 with h | h | h <;> omega
  have hmod : ∀ b, (64 * p + b) % τ 0 5 = b % τ 0 5 := fun b => by rcases hS.1 with h | h | h <;> rw [h] <;> omega
  have hdec : ∀ b, InS σ τ p b0 b ∨ ¬ InS σ τ p b0 b := fun b => Classical.em _
  obtain ⟨ind, hind⟩ : ∃ ind : Int → Int, ∀ b, (InS σ τ p b0 b → ind b = 1) ∧ (¬ InS σ τ p b0 b → ind b = 0) :=
    ⟨fun b => if b % τ 0 5 = b0 % τ 0 5 then (if σ 10 (64 * p + b) = 0 then 0 else 1) else 0, fun b => by
      unfold InS
      by_cases c1 : b % τ 0 5 = b0 % τ 0 5
      · by_cases c2 : σ 10 (64 * p + b) = 0
        · simp [c1, c2]
        · simp [c1, c2]
      · simp [c1]⟩
  have hheld := held_R hA hp hp2 hb hb2 ind (fun b _ _ => hind b)
  -- distinct keys in the set
  have hkey : ∀ b b', 0 ≤ b → b < 64 → 0 ≤ b' → b' < 64 → b ≠ b' → InS σ τ p b0 b → InS σ τ p b0 b' → kyC σ (64 * p + b) ≠ kyC σ (64 * p + b') := fun b b' a1 a2 a3 a4 a5 a6 a7 => by
    rcases hA.2.2.1 p b hp hp2 a1 a2 with z | ⟨l, hl⟩
    · exact absurd z a6.2
    · rcases hA.2.2.1 p b' hp hp2 a3 a4 with z | ⟨l', hl'⟩
      · exact absurd z a7.2
      · exact (key_R h0 hA hp hp2 a1 a2 a3 a4 a5 hl hl').1
  have key : ∃ a, F_Ca_leavingFor σ (64 * p + b0) = some (σ, a) ∧ ((gcnt ind 64 < τ 0 6 ∧ a = -4) ∨ (¬ gcnt ind 64 < τ 0 6 ∧ ((a = -4 ∧ ∀ b, 0 ≤ b → b < 64 → ¬ InS σ τ p b0 b) ∨ ∃ bx, 0 ≤ bx ∧ bx < 64 ∧ InS σ τ p b0 bx ∧ a = 64 * p + bx ∧ ∀ b, 0 ≤ b → b < 64 → InS σ τ p b0 b → b ≠ bx → kyC σ (64 * p + bx) < kyC σ (64 * p + b)))) := by
    unfold F_Ca_leavingFor
    rw [h7, ga_p (by omega), gd_p (by omega), ga_p (by omega), show 64 * p + b0 - (64 * p + b0) % 64 = 64 * p by omega]
    refine to_gl3 (lo := 0) (hi := 64) (R := fun o => ∃ a, o = some (σ, a) ∧ ((gcnt ind 64 < τ 0 6 ∧ a = -4) ∨ (¬ gcnt ind 64 < τ 0 6 ∧ ((a = -4 ∧ ∀ b, 0 ≤ b → b < 64 → ¬ InS σ τ p b0 b) ∨ ∃ bx, 0 ≤ bx ∧ bx < 64 ∧ InS σ τ p b0 bx ∧ a = 64 * p + bx ∧ ∀ b, 0 ≤ b → b < 64 → InS σ τ p b0 b → b ≠ bx → kyC σ (64 * p + bx) < kyC σ (64 * p + b)))))
      (fun j s h v => s = σ ∧ h = gcnt ind j.toNat ∧ ((v = -4 ∧ ∀ b, 0 ≤ b → b < j → ¬ InS σ τ p b0 b) ∨ ∃ bx, 0 ≤ bx ∧ bx < j ∧ InS σ τ p b0 bx ∧ v = 64 * p + bx ∧ ∀ b, 0 ≤ b → b < j → InS σ τ p b0 b → b ≠ bx → kyC σ (64 * p + bx) < kyC σ (64 * p + b))) ?_ ?_ 200 0 σ 0 (-4) (by omega) (by omega) (by omega) ⟨rfl, rfl, Or.inl ⟨rfl, fun b _ _ => by omega⟩⟩
    · rintro rec j s hd v j1 j2 ⟨rfl, rfl, hv⟩ ih
      have hle := gcnt_le (f := ind) j.toNat (fun b b1 b2 => by rcases hdec b with z | z; rw [(hind b).1 z]; decide; rw [(hind b).2 z]; decide)
      have hj : ((j.toNat : Nat) : Int) = j := Int.toNat_of_nonneg j1
      have hsucc : gcnt ind (j + 1).toNat = gcnt ind j.toNat + ind j := by
        rw [show (j + 1).toNat = j.toNat + 1 by omega, gcnt.eq_2, hj]
      unfold l_Ca_leavingFor_24 j_Ca_leavingFor_81 j_Ca_leavingFor_85
      rw [if_pos j2, ga_p (by omega), set_e hS.1 (by omega) (by omega), set_e hS.1 (by omega) (by omega), hmod, hmod]
      by_cases c1 : j % τ 0 5 = b0 % τ 0 5
      · rw [if_pos c1, gi_p (by omega)]
        by_cases c2 : s 10 (64 * p + j) = 0
        · rw [if_pos c2, ga_p (by omega)]
          have hno : ¬ InS s τ p b0 j := fun q => q.2 c2
          refine ih s _ _ ⟨rfl, by rw [hsucc, (hind j).2 hno]; omega, ?_⟩
          rcases hv with ⟨v1, v2⟩ | ⟨bx, v1, v2, v3, v4, v5⟩
          · refine Or.inl ⟨v1, fun b b1 b2 => ?_⟩
            rcases (show b < j ∨ b = j by omega) with q | rfl
            · exact v2 b b1 q
            · exact hno
          · refine Or.inr ⟨bx, v1, by omega, v3, v4, fun b b1 b2 b3 b4 => ?_⟩
            rcases (show b < j ∨ b = j by omega) with q | rfl
            · exact v5 b b1 q b3 b4
            · exact absurd b3 hno
        · have hyes : InS s τ p b0 j := ⟨c1, c2⟩
          rw [if_neg c2, ga_p (by omega)]
          rcases hv with ⟨v1, v2⟩ | ⟨bx, v1, v2, v3, v4, v5⟩
          · rw [if_pos v1, ga_p (by omega)]
            refine ih s _ _ ⟨rfl, by rw [hsucc, (hind j).1 hyes], Or.inr ⟨j, j1, by omega, hyes, rfl, fun b b1 b2 b3 b4 => ?_⟩⟩
            exact absurd b3 (v2 b b1 (by omega))
          · rw [if_neg (show ¬ v = -4 by omega), v4, gk_e (ahead_e (by omega) (by omega) (by omega) (by omega))]
            by_cases c3 : kyC s (64 * p + j) < kyC s (64 * p + bx)
            · rw [if_pos c3, if_neg (show ¬ (1 : Int) = 0 by decide), ga_p (by omega)]
              refine ih s _ _ ⟨rfl, by rw [hsucc, (hind j).1 hyes], Or.inr ⟨j, j1, by omega, hyes, rfl, fun b b1 b2 b3 b4 => ?_⟩⟩
              by_cases c4 : b = bx
              · rw [c4]; exact c3
              · exact Int.lt_trans c3 (v5 b b1 (by omega) b3 c4)
            · rw [if_neg c3, if_pos rfl, ga_p (by omega)]
              refine ih s _ _ ⟨rfl, by rw [hsucc, (hind j).1 hyes], Or.inr ⟨bx, v1, by omega, v3, rfl, fun b b1 b2 b3 b4 => ?_⟩⟩
              rcases (show b < j ∨ b = j by omega) with q | rfl
              · exact v5 b b1 q b3 b4
              · have := hkey b bx j1 j2 v1 (by omega) b4 b3 v3
                omega
      · rw [if_neg c1, ga_p (by omega)]
        have hno : ¬ InS s τ p b0 j := fun q => c1 q.1
        refine ih s _ _ ⟨rfl, by rw [hsucc, (hind j).2 hno]; omega, ?_⟩
        rcases hv with ⟨v1, v2⟩ | ⟨bx, v1, v2, v3, v4, v5⟩
        · refine Or.inl ⟨v1, fun b b1 b2 => ?_⟩
          rcases (show b < j ∨ b = j by omega) with q | rfl
          · exact v2 b b1 q
          · exact hno
        · refine Or.inr ⟨bx, v1, by omega, v3, v4, fun b b1 b2 b3 b4 => ?_⟩
          rcases (show b < j ∨ b = j by omega) with q | rfl
          · exact v5 b b1 q b3 b4
          · exact absurd b3 hno
    · rintro rec s hd v ⟨rfl, rfl, hv⟩
      unfold l_Ca_leavingFor_24
      rw [if_neg (by decide)]
      dsimp only
      rw [h8, show (64 : Int).toNat = 64 from rfl]
      by_cases c : gcnt ind 64 < τ 0 6
      · exact ⟨-4, by rw [if_pos c]; rfl, Or.inl ⟨c, rfl⟩⟩
      · exact ⟨v, by rw [if_neg c]; rfl, Or.inr ⟨c, hv⟩⟩
  obtain ⟨a, e1, hcase⟩ := key
  have hf01 : ∀ w : Int, 0 ≤ w → w < ((τ 0 6).toNat : Nat) → 0 ≤ (if τ 4 (sb τ p b0 + w) = -4 then (0 : Int) else 1) ∧ (if τ 4 (sb τ p b0 + w) = -4 then (0 : Int) else 1) ≤ 1 := fun w _ _ => by split <;> decide
  refine ⟨a, e1, fun ⟨l, l1, l2, l3⟩ => ?_, fun hfull => ?_⟩
  · have hlt := gcnt_lt (f := fun w => if τ 4 (sb τ p b0 + w) = -4 then (0 : Int) else 1) (c := l - sb τ p b0) (τ 0 6).toNat (by omega) (by omega) (by rw [show sb τ p b0 + (l - sb τ p b0) = l by omega, if_pos l3]) hf01
    rcases hcase with q | q
    · exact q.2
    · exact absurd (show gcnt ind 64 < τ 0 6 by rw [hheld]; omega) q.1
  · have hall := gcnt_all (f := fun w => if τ 4 (sb τ p b0 + w) = -4 then (0 : Int) else 1) (τ 0 6).toNat (fun w w1 w2 => by rw [if_neg]; exact fun z => hfull ⟨sb τ p b0 + w, by omega, by omega, z⟩)
    rcases hcase with q | ⟨q, r⟩
    · exact absurd q.1 (by rw [hheld]; omega)
    · rcases r with ⟨r1, r2⟩ | r
      · exfalso
        have : gcnt ind 64 = 0 := gcnt_zero 64 fun b b1 b2 => (hind b).2 (r2 b b1 b2)
        omega
      · exact r
