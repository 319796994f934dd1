/-! cells and the ledger: class and model side by side -/
def cC (v : Int) : Int := ((ccN v.toNat : Nat) : Int)
def rC (x : Int) : Int := rN x.toNat
def vC (x : Int) : Int := ((vN x.toNat : Nat) : Int)
theorem coded_i {σ : gM} {v : Int} (h : 0 ≤ v) (h2 : v < 256) : F_Ce_coded σ v = some (σ, cC v) := by
  obtain ⟨n, rfl⟩ : ∃ n : Nat, v = (n : Int) := ⟨v.toNat, by omega⟩
  exact coded_e (by omega)
theorem code_i {σ : gM} {v : Int} (h : 0 ≤ v) (h2 : v < 256) : F_Mo_code σ v = some (σ, cC v) := by
  obtain ⟨n, rfl⟩ : ∃ n : Nat, v = (n : Int) := ⟨v.toNat, by omega⟩
  exact code_e (by omega)
theorem righted_i {σ : gM} {v : Int} (h : 0 ≤ v) (h2 : v < 8192) : F_Ce_righted σ v = some (σ, rC v) := by
  obtain ⟨n, rfl⟩ : ∃ n : Nat, v = (n : Int) := ⟨v.toNat, by omega⟩
  exact righted_e (by omega)
theorem mend_i {σ : gM} {v : Int} (h : 0 ≤ v) (h2 : v < 8192) : F_Mo_mend σ v = some (σ, rC v) := by
  obtain ⟨n, rfl⟩ : ∃ n : Nat, v = (n : Int) := ⟨v.toNat, by omega⟩
  exact mend_e (by omega)
theorem valueOf_i {σ : gM} {v : Int} (h : 0 ≤ v) (h2 : v < 8192) : F_Ce_valueOf σ v = some (σ, vC v) := by
  obtain ⟨n, rfl⟩ : ∃ n : Nat, v = (n : Int) := ⟨v.toNat, by omega⟩
  exact valueOf_e (by omega)
theorem value_i {σ : gM} {v : Int} (h : 0 ≤ v) (h2 : v < 8192) : F_Mo_value σ v = some (σ, vC v) := by
  obtain ⟨n, rfl⟩ : ∃ n : Nat, v = (n : Int) := ⟨v.toNat, by omega⟩
  exact value_e (by omega)
theorem cC_ok {v : Int} (h : 0 ≤ v) (h2 : v < 256) : 0 ≤ cC v ∧ cC v < 8192 := by
  have := (cN_all v.toNat (by omega)).2.2.2
  unfold cC
  omega
theorem rC_ok {v : Int} (h : 0 ≤ v) (h2 : v < 8192) : rC v = -5 ∨ (0 ≤ rC v ∧ rC v < 8192) := rN_ok (by omega)
theorem vC_ok {v : Int} (h : 0 ≤ v) (h2 : v < 8192) : 0 ≤ vC v ∧ vC v ≤ 255 := by
  have := (vN_e (x := v.toNat) (by omega)).2
  unfold vC
  omega
theorem gXor_ok {a b : Int} (ha : 0 ≤ a) (ha2 : a < 8192) (hb : 0 ≤ b) (hb2 : b < 8192) : 0 ≤ gXor a b ∧ gXor a b < 8192 := by
  obtain ⟨n, rfl⟩ : ∃ n : Nat, a = (n : Int) := ⟨a.toNat, by omega⟩
  obtain ⟨m, rfl⟩ : ∃ m : Nat, b = (m : Int) := ⟨b.toNat, by omega⟩
  rw [gXor_n (by omega) (by omega)]
  have : n ^^^ m < 2 ^ 13 := Nat.xor_lt_two_pow (by omega) (by omega)
  omega
def tsum (t : Int → Int) : Int := t 0 + t 1 + t 2 + t 3 + t 4 + t 5 + t 6 + t 7
def Rce (B : Int) (b6 w7 o8 : Int → Int) (lm : Int) (c1 w2 o3 : Int → Int) (lm' : Int) : Prop :=
  (∀ a, 0 ≤ a → a < 512 → b6 a = c1 a ∧ 0 ≤ c1 a ∧ c1 a < 8192) ∧ (∀ b, 0 ≤ b → b < 64 → w7 b = w2 b ∧ 0 ≤ w2 b ∧ w2 b ≤ B) ∧ (∀ k, 0 ≤ k → k < 4 → o8 k = o3 k) ∧ lm = lm' ∧ 0 ≤ lm' ∧ lm' ≤ 60
def Rru (r : Int → Int) (who late goes fit : Int) : Prop := (r 0 = who ∧ 0 ≤ who ∧ who ≤ 2) ∧ (r 1 = late ∧ 0 ≤ late ∧ late ≤ 1) ∧ (r 2 = goes ∧ 0 ≤ goes ∧ goes ≤ 2) ∧ (r 3 = fit ∧ 0 ≤ fit ∧ fit ≤ 1)
def Rti (B : Int) (bl t4 : Int → Int) (g : Int) (tk : Int → Int) (g' : Int) : Prop :=
  g = g' ∧ (g' = 0 ∨ g' = 1) ∧ (∀ c, 0 ≤ c → c < 8 → bl c = tk c ∧ 0 ≤ tk c) ∧ t4 14 = tsum tk ∧ tsum tk ≤ B
def Rco (B : Int) (t4 ct : Int → Int) (md : Int) : Prop :=
  (∀ c, 0 ≤ c → c < 16 → c ≠ 8 → c ≠ 11 → c ≠ 14 → t4 c = ct c ∧ 0 ≤ ct c ∧ ct c ≤ B) ∧ t4 8 = md ∧ 0 ≤ md ∧ md ≤ B
def R0 (B : Int) (σ τ : gM) : Prop :=
  Rce B (σ 6) (σ 7) (σ 8) (σ 5 3) (τ 1) (τ 2) (τ 3) (τ 0 1) ∧ Rru (σ 1) (τ 0 7) (τ 0 8) (τ 0 20) (τ 0 31) ∧ Rti B (σ 3) (σ 4) (σ 2 2) (τ 29) (τ 0 40) ∧ Rco B (σ 4) (τ 30) (τ 0 4)
/-- what the low level leaves as it is -/
def Fr0 (σ τ s s' : gM) : Prop :=
  (∀ k, k ≠ 3 → k ≠ 4 → k ≠ 6 → k ≠ 7 → k ≠ 8 → s k = σ k) ∧ s 4 11 = σ 4 11 ∧ (∀ k, k ≠ 0 → k ≠ 1 → k ≠ 2 → k ≠ 3 → k ≠ 29 → k ≠ 30 → s' k = τ k) ∧ (∀ i, i ≠ 4 → s' 0 i = τ 0 i)
theorem Fr0.refl (σ τ : gM) : Fr0 σ τ σ τ := ⟨fun _ _ _ _ _ _ => rfl, rfl, fun _ _ _ _ _ _ _ => rfl, fun _ _ => rfl⟩
theorem Fr0.trans {σ τ s s' t t' : gM} (h : Fr0 σ τ s s') (h2 : Fr0 s s' t t') : Fr0 σ τ t t' :=
  ⟨fun k a b c d e => (h2.1 k a b c d e).trans (h.1 k a b c d e), h2.2.1.trans h.2.1, fun k a b c d e f => (h2.2.2.1 k a b c d e f).trans (h.2.2.1 k a b c d e f), fun i hi => (h2.2.2.2 i hi).trans (h.2.2.2 i hi)⟩
theorem Rce.mono {B B' : Int} {b6 w7 o8 : Int → Int} {lm : Int} {c1 w2 o3 : Int → Int} {lm' : Int} (h : Rce B b6 w7 o8 lm c1 w2 o3 lm') (hb : B ≤ B') : Rce B' b6 w7 o8 lm c1 w2 o3 lm' :=
  ⟨h.1, fun b h1 h2 => ⟨(h.2.1 b h1 h2).1, (h.2.1 b h1 h2).2.1, Int.le_trans (h.2.1 b h1 h2).2.2 hb⟩, h.2.2⟩
theorem Rti.mono {B B' : Int} {bl t4 : Int → Int} {g : Int} {tk : Int → Int} {g' : Int} (h : Rti B bl t4 g tk g') (hb : B ≤ B') : Rti B' bl t4 g tk g' :=
  ⟨h.1, h.2.1, h.2.2.1, h.2.2.2.1, Int.le_trans h.2.2.2.2 hb⟩
theorem Rco.mono {B B' : Int} {t4 ct : Int → Int} {md : Int} (h : Rco B t4 ct md) (hb : B ≤ B') : Rco B' t4 ct md :=
  ⟨fun c h1 h2 h3 h4 h5 => ⟨(h.1 c h1 h2 h3 h4 h5).1, (h.1 c h1 h2 h3 h4 h5).2.1, Int.le_trans (h.1 c h1 h2 h3 h4 h5).2.2 hb⟩, h.2.1, h.2.2.1, Int.le_trans h.2.2.2 hb⟩
theorem R0.mono {B B' : Int} {σ τ : gM} (h : R0 B σ τ) (hb : B ≤ B') : R0 B' σ τ := ⟨h.1.mono hb, h.2.1, h.2.2.1.mono hb, h.2.2.2.mono hb⟩
theorem tsum_nn {t : Int → Int} (h : ∀ c, 0 ≤ c → c < 8 → 0 ≤ t c) (c : Int) (h1 : 0 ≤ c) (h2 : c < 8) : 0 ≤ t c ∧ t c ≤ tsum t := by
  have a0 := h 0 (by omega) (by omega)
  have a1 := h 1 (by omega) (by omega)
  have a2 := h 2 (by omega) (by omega)
  have a3 := h 3 (by omega) (by omega)
  have a4 := h 4 (by omega) (by omega)
  have a5 := h 5 (by omega) (by omega)
  have a6 := h 6 (by omega) (by omega)
  have a7 := h 7 (by omega) (by omega)
  unfold tsum
  rcases (show c = 0 ∨ c = 1 ∨ c = 2 ∨ c = 3 ∨ c = 4 ∨ c = 5 ∨ c = 6 ∨ c = 7 by omega) with rfl | rfl | rfl | rfl | rfl | rfl | rfl | rfl <;> exact ⟨by omega, by omega⟩
theorem tsum_up {τ : gM} {c n : Int} (h1 : 0 ≤ c) (h2 : c < 8) : tsum (gU τ 29 c (τ 29 c + n) 29) = tsum (τ 29) + n := by
  unfold tsum
  rcases (show c = 0 ∨ c = 1 ∨ c = 2 ∨ c = 3 ∨ c = 4 ∨ c = 5 ∨ c = 6 ∨ c = 7 by omega) with rfl | rfl | rfl | rfl | rfl | rfl | rfl | rfl <;> simp [gU] <;> omega
/-- ticks on both sides -/
theorem tick_R {B n c : Int} {σ τ : gM} (h : R0 B σ τ) (hc : 0 ≤ c) (hc2 : c < 8) (hn : 0 ≤ n) (hB : B + n ≤ 1073741824) :
    ∃ s s', j_Le_spend_17_3 σ n c = some (s, 0) ∧ j_Mo_tick_17_29 τ n c = some (s', 0) ∧ R0 (B + n) s s' ∧ Fr0 σ τ s s' := by
  obtain ⟨hce, hru, ⟨g1, g2, g3, g4, g5⟩, hco⟩ := h
  have ht := tsum_nn (fun c a b => (g3 c a b).2) c hc hc2
  have hbl := (g3 c hc hc2).1
  refine ⟨gU (gU σ 3 c (σ 3 c + n)) 4 14 (σ 4 14 + n), gU τ 29 c (τ 29 c + n), ?_, ?_, ?_, ?_⟩
  · unfold j_Le_spend_17_3
    rw [gi_p ⟨hc, hc2⟩, ga_p (by omega), gw_p ⟨hc, hc2⟩, gi_p (by omega), gU_k (show (4 : Nat) ≠ 3 by decide), ga_p (by omega), gw_p (by omega)]
  · unfold j_Mo_tick_17_29
    rw [gi_p ⟨hc, hc2⟩, gal_p (by omega), gw_p ⟨hc, hc2⟩]
  · refine ⟨hce.mono (by omega), hru, ⟨g1, g2, fun k a b => ?_, ?_, ?_⟩, ?_⟩
    · rw [gU_k (show (3 : Nat) ≠ 4 by decide), gU_at, gU_at]
      have := g3 k a b
      have := g3 c hc hc2
      by_cases hk : k = c
      · subst hk; rw [if_pos rfl, if_pos rfl]; omega
      · rw [if_neg hk, if_neg hk]; exact g3 k a b
    · rw [gU_e, tsum_up hc hc2, g4]
    · rw [tsum_up hc hc2]; omega
    · refine ⟨fun k h1 h2 h3 h4 h5 => ?_, ?_, ?_⟩
      · rw [gU_i h5, gU_k (show (4 : Nat) ≠ 3 by decide), gU_k (show (30 : Nat) ≠ 29 by decide)]
        have := hco.1 k h1 h2 h3 h4 h5
        omega
      · rw [gU_i (by decide), gU_k (show (4 : Nat) ≠ 3 by decide)]; exact hco.2.1
      · have := hco.2.2; exact ⟨this.1, by have := this.2; show τ 0 4 ≤ B + n; omega⟩
  · refine ⟨fun k h1 h2 h3 h4 h5 => ?_, ?_, fun k h1 h2 h3 h4 h5 h6 => ?_, fun i _ => rfl⟩
    · rw [gU_k h2, gU_k h1]
    · rw [gU_i (by decide), gU_k (show (4 : Nat) ≠ 3 by decide)]
    · rw [gU_k h5]
def spK (σ : gM) (c : Int) : Int := if σ 2 2 = 0 then c else 7
def spC (σ : gM) (c n : Int) : gM := gU (gU σ 3 (spK σ c) (σ 3 (spK σ c) + n)) 4 14 (σ 4 14 + n)
theorem spend_e {σ : gM} {c n : Int} (hc : 0 ≤ c) (hc2 : c < 8) (hn : 0 ≤ n) (h3 : 0 ≤ σ 3 (spK σ c) ∧ σ 3 (spK σ c) + n ≤ 1073741824) (h4 : 0 ≤ σ 4 14 ∧ σ 4 14 + n ≤ 1073741824) : F_Le_spend σ c n = some (spC σ c n, 0) := by
  unfold F_Le_spend spC
  have key : ∀ d, 0 ≤ d → d < 8 → 0 ≤ σ 3 d ∧ σ 3 d + n ≤ 1073741824 → j_Le_spend_17_3 σ n d = some (gU (gU σ 3 d (σ 3 d + n)) 4 14 (σ 4 14 + n), 0) := by
    intro d h1 h2 h3
    unfold j_Le_spend_17_3
    rw [gi_p ⟨h1, h2⟩, ga_p (by omega), gw_p ⟨h1, h2⟩, gi_p (by omega), gU_k (show (4 : Nat) ≠ 3 by decide), ga_p (by omega), gw_p (by omega)]
  by_cases h0 : σ 2 2 = 0
  · have e : spK σ c = c := if_pos h0
    rw [e] at h3 ⊢
    rw [if_pos h0]; exact key c hc hc2 h3
  · have e : spK σ c = 7 := if_neg h0
    rw [e] at h3 ⊢
    rw [if_neg h0]; exact key 7 (by decide) (by decide) h3
theorem spend_R {B n c : Int} {σ τ : gM} (h : R0 B σ τ) (hc : 0 ≤ c) (hc2 : c < 8) (hn : 0 ≤ n) (hB : B + n ≤ 1073741824) :
    ∃ s s', F_Le_spend σ c n = some (s, 0) ∧ F_Mo_tick τ c n = some (s', 0) ∧ R0 (B + n) s s' ∧ Fr0 σ τ s s' := by
  have hg := h.2.2.1.1
  unfold F_Le_spend F_Mo_tick
  rw [hg]
  by_cases h0 : τ 0 40 = 0
  · rw [if_pos h0, if_pos h0]; exact tick_R h hc hc2 hn hB
  · rw [if_neg h0, if_neg h0]; exact tick_R h (by omega) (by omega) hn hB
theorem sim_spend {B n c : Int} {σ τ : gM} {K K' : gM → Int → gO} {Q : gM → Int → gM → Int → Prop} (h : R0 B σ τ) (hc : 0 ≤ c) (hc2 : c < 8) (hn : 0 ≤ n) (hB : B + n ≤ 1073741824)
    (k : ∀ s s', R0 (B + n) s s' → Fr0 σ τ s s' → Sim (K s 0) (K' s' 0) Q) : Sim (gk (F_Le_spend σ c n) K) (gk (F_Mo_tick τ c n) K') Q := by
  obtain ⟨s, s', e1, e2, h1, h2⟩ := spend_R h hc hc2 hn hB
  rw [gk_e e1, gk_e e2]
  exact k s s' h1 h2
/-- a count of the class' ledger; the model's own row -/
theorem add_e {B n c : Int} {σ : gM} (hc : 0 ≤ c) (hc2 : c < 16) (h : 0 ≤ σ 4 c ∧ σ 4 c ≤ B) (hn : 0 ≤ n) (hB : B + n ≤ 1073741824) : F_Le_add σ c n = some (gU σ 4 c (σ 4 c + n), 0) := by
  unfold F_Le_add
  rw [gi_p ⟨hc, hc2⟩, ga_p (by omega), gw_p ⟨hc, hc2⟩]
theorem count_R {B n c : Int} {σ τ : gM} (h : R0 B σ τ) (hc : 0 ≤ c) (hc2 : c < 16) (h8 : c ≠ 8) (h11 : c ≠ 11) (h14 : c ≠ 14) (hn : 0 ≤ n) :
    R0 (B + n) (gU σ 4 c (σ 4 c + n)) (gU τ 30 c (τ 30 c + n)) ∧ Fr0 σ τ (gU σ 4 c (σ 4 c + n)) (gU τ 30 c (τ 30 c + n)) := by
  obtain ⟨hce, hru, ⟨g1, g2, g3, g4, g5⟩, hco⟩ := h
  refine ⟨⟨hce.mono (by omega), hru, ⟨g1, g2, g3, ?_, ?_⟩, ?_⟩, ?_⟩
  · rw [gU_i (Ne.symm h14)]; exact g4
  · show tsum (τ 29) ≤ B + n; omega
  · refine ⟨fun k h1 h2 h3 h4 h5 => ?_, ?_, ?_⟩
    · rw [gU_at, gU_at]
      have := hco.1 k h1 h2 h3 h4 h5
      have := hco.1 c hc hc2 h8 h11 h14
      by_cases hk : k = c
      · subst hk; rw [if_pos rfl, if_pos rfl]; omega
      · rw [if_neg hk, if_neg hk]; omega
    · rw [gU_i (Ne.symm h8)]; exact hco.2.1
    · have := hco.2.2; exact ⟨this.1, by have := this.2; show τ 0 4 ≤ B + n; omega⟩
  · refine ⟨fun k h1 h2 h3 h4 h5 => by rw [gU_k h2], by rw [gU_i (Ne.symm h11)], fun k h1 h2 h3 h4 h5 h6 => by rw [gU_k h6], fun i _ => rfl⟩
theorem sim_count {B n c : Int} {σ τ : gM} {K : gM → Int → gO} {f : gM → gO} {Q : gM → Int → gM → Int → Prop} (h : R0 B σ τ) (hc : 0 ≤ c) (hc2 : c < 16) (h8 : c ≠ 8) (h11 : c ≠ 11) (h14 : c ≠ 14) (hn : 0 ≤ n) (hB : B + n ≤ 1073741824)
    (k : ∀ s s', R0 (B + n) s s' → Fr0 σ τ s s' → Sim (K s 0) (f s') Q) : Sim (gk (F_Le_add σ c n) K) (gi c 16 (ga (τ 30 c + n) fun a => gw τ 30 16 c a f)) Q := by
  have hco := h.2.2.2.1 c hc hc2 h8 h11 h14
  obtain ⟨h1, h2⟩ := count_R h hc hc2 h8 h11 h14 hn
  rw [gk_e (add_e (B := B) hc hc2 (by omega) hn hB), gi_p ⟨hc, hc2⟩, ga_p (by omega), gw_p ⟨hc, hc2⟩]
  exact k _ _ h1 h2
/-- a cell's bits on both sides -/
theorem bits_R {B a v : Int} {σ τ : gM} (h : R0 B σ τ) (hv : 0 ≤ v) (hv2 : v < 8192) : R0 B (gU σ 6 a v) (gU τ 1 a v) ∧ Fr0 σ τ (gU σ 6 a v) (gU τ 1 a v) := by
  obtain ⟨⟨a1, a2, a3, a4⟩, hru, hti, hco⟩ := h
  refine ⟨⟨⟨fun k h1 h2 => ?_, a2, a3, a4⟩, hru, hti, hco⟩, ⟨fun k h1 h2 h3 h4 h5 => by rw [gU_k h3], rfl, fun k h1 h2 h3 h4 h5 h6 => by rw [gU_k h2], fun i _ => rfl⟩⟩
  rw [gU_at, gU_at]
  by_cases hk : k = a
  · rw [if_pos hk, if_pos hk]; exact ⟨rfl, hv, hv2⟩
  · rw [if_neg hk, if_neg hk]; exact a1 k h1 h2
/-- reading a cell -/
theorem sim_read {B a : Int} {σ τ : gM} {K K' : gM → Int → gO} {Q : gM → Int → gM → Int → Prop} (h : R0 B σ τ) (ha : 0 ≤ a) (ha2 : a < 512) (hB : B + 1 ≤ 1073741824)
    (k : ∀ s s' r, R0 (B + 1) s s' → Fr0 σ τ s s' → (r = -5 ∨ (0 ≤ r ∧ r ≤ 255)) → Sim (K s r) (K' s' r) Q) : Sim (gk (F_Ce_read σ a) K) (gk (F_Mo_readCell τ a) K') Q := by
  have hb := h.1.1 a ha ha2
  have hm := h.2.2.2.2
  have e6 : σ 6 a = τ 1 a := hb.1
  unfold F_Ce_read F_Mo_readCell
  rw [gi_p ⟨ha, ha2⟩, gi_p ⟨ha, ha2⟩, e6, gk_e (righted_i hb.2.1 hb.2.2), gk_e (mend_i hb.2.1 hb.2.2)]
  rcases rC_ok hb.2.1 hb.2.2 with hr | hr
  · rw [if_pos hr, if_pos (show rC (τ 1 a) < 0 by omega)]
    exact k σ τ (-5) (h.mono (by omega)) (Fr0.refl σ τ) (Or.inl rfl)
  · rw [if_neg (show ¬ rC (τ 1 a) = -5 by omega), if_neg (show ¬ rC (τ 1 a) < 0 by omega), gi_p ⟨ha, ha2⟩, gi_p ⟨ha, ha2⟩]
    have hv := vC_ok hr.1 hr.2
    obtain ⟨h1, h2⟩ := bits_R (a := a) h hr.1 hr.2
    by_cases heq : rC (τ 1 a) = τ 1 a
    · rw [e6, if_pos heq, if_pos heq]
      unfold j_Ce_read_46 j_Mo_readCell_37_0
      rw [gk_e (valueOf_i hr.1 hr.2), ga_p (by omega), gp_p, gw_p ⟨ha, ha2⟩, gk_e (value_i hr.1 hr.2), gk_s, gk_s]
      have e1 : gU (gU τ 0 4 (τ 0 4 + 0)) 1 a (rC (τ 1 a)) = τ := by
        funext k i
        unfold gU
        by_cases q1 : k = 1 ∧ i = a
        · rw [if_pos q1, q1.1, q1.2]; exact heq
        · rw [if_neg q1]
          by_cases q2 : k = 0 ∧ i = 4
          · rw [if_pos q2, q2.1, q2.2]; omega
          · rw [if_neg q2]
      rw [e1]
      exact k σ τ _ (h.mono (by omega)) (Fr0.refl σ τ) (Or.inr hv)
    · rw [e6, if_neg heq, if_neg heq, gw_p ⟨ha, ha2⟩]
      have e48 : gU σ 6 a (rC (τ 1 a)) 4 8 = σ 4 8 := by rw [gU_k (show (4 : Nat) ≠ 6 by decide)]
      have m1 := hm.1
      rw [gk_e (add_e (B := B) (by decide) (by decide) (by rw [e48]; omega) (by decide) hB), e48]
      unfold j_Ce_read_46 j_Mo_readCell_37_0
      rw [gk_e (valueOf_i hr.1 hr.2), ga_p (by omega), gp_p, gw_p ⟨ha, ha2⟩, gk_e (value_i hr.1 hr.2), gk_s, gk_s]
      have ec : gU (gU τ 0 4 (τ 0 4 + 1)) 1 a (rC (τ 1 a)) = gU (gU τ 1 a (rC (τ 1 a))) 0 4 (τ 0 4 + 1) := by
        funext k i
        unfold gU
        by_cases q1 : k = 1 ∧ i = a
        · rw [if_pos q1, if_neg (by omega), if_pos q1]
        · rw [if_neg q1]
          by_cases q2 : k = 0 ∧ i = 4
          · rw [if_pos q2, if_pos q2]
          · rw [if_neg q2, if_neg q2, if_neg q1]
      rw [ec]
      refine k _ _ _ ?_ ?_ (Or.inr hv)
      · obtain ⟨hce, hru, ⟨g1, g2, g3, g4, g5⟩, hco⟩ := h1
        refine ⟨hce.mono (by omega), hru, ⟨g1, g2, g3, ?_, Int.le_trans g5 (by omega)⟩, ⟨fun c q1 q2 q3 q4 q5 => ?_, ?_, ?_⟩⟩
        · rw [gU_i (by decide)]; exact g4
        · rw [gU_i q3]
          have := hco.1 c q1 q2 q3 q4 q5
          exact ⟨this.1, this.2.1, Int.le_trans this.2.2 (by omega)⟩
        · rw [gU_e, gU_e]; omega
        · rw [gU_e]; omega
      · refine h2.trans ⟨fun k h1 h2 h3 h4 h5 => by rw [gU_k h2], by rw [gU_i (by decide)], fun k h1 h2 h3 h4 h5 h6 => by rw [gU_k h1], fun i hi => by rw [gU_i hi]⟩
