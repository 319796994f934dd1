/-! opening rows -/
theorem in_y {τ : gM} {v lo hi : Int} (h : lo ≤ v ∧ v ≤ hi) : F_Mo_in τ v lo hi = some (τ, 1) := by
  unfold F_Mo_in
  rw [if_neg (show ¬ v < lo by omega), if_neg (show ¬ hi < v by omega)]
  rfl
theorem in_n {τ : gM} {v lo hi : Int} (h : v < lo ∨ hi < v) : F_Mo_in τ v lo hi = some (τ, 0) := by
  unfold F_Mo_in
  by_cases h1 : v < lo
  · rw [if_pos h1]; rfl
  · rw [if_neg h1, if_pos (show hi < v by omega)]; rfl
theorem within_y {σ : gM} {v hi : Int} (h : 0 ≤ v ∧ v ≤ hi) : F_Co_within σ v hi = some (σ, 1) := by
  unfold F_Co_within
  rw [if_neg (show ¬ v < 0 by omega), if_neg (show ¬ hi < v by omega)]
  rfl
theorem within_n {σ : gM} {v hi : Int} (h : v < 0 ∨ hi < v) : F_Co_within σ v hi = some (σ, 0) := by
  unfold F_Co_within
  by_cases h1 : v < 0
  · rw [if_pos h1]; rfl
  · rw [if_neg h1, if_pos (show hi < v by omega)]; rfl
/-- the cells' part alone, and what it leaves -/
def RC (B : Int) (σ τ : gM) : Prop := Rce B (σ 6) (σ 7) (σ 8) (σ 5 3) (τ 1) (τ 2) (τ 3) (τ 0 1)
def FrC (σ τ s s' : gM) : Prop := (∀ k, k ≠ 6 → k ≠ 7 → k ≠ 8 → s k = σ k) ∧ (∀ k, k ≠ 1 → k ≠ 2 → k ≠ 3 → s' k = τ k)
theorem FrC.refl (σ τ : gM) : FrC σ τ σ τ := ⟨fun _ _ _ _ => rfl, fun _ _ _ _ => rfl⟩
theorem FrC.trans {σ τ s s' t t' : gM} (h : FrC σ τ s s') (h2 : FrC s s' t t') : FrC σ τ t t' :=
  ⟨fun k a b c => (h2.1 k a b c).trans (h.1 k a b c), fun k a b c => (h2.2 k a b c).trans (h.2 k a b c)⟩
theorem FrC.fr {σ τ s s' : gM} (h : FrC σ τ s s') : Fr0 σ τ s s' :=
  ⟨fun k h1 h2 h3 h4 h5 => h.1 k h3 h4 h5, by rw [h.1 4 (by decide) (by decide) (by decide)], fun k h1 h2 h3 h4 h5 h6 => h.2 k h2 h3 h4, fun i _ => by rw [h.2 0 (by decide) (by decide) (by decide)]⟩
theorem wear_up {B b v : Int} {σ τ : gM} (h : RC B σ τ) (hv : 0 ≤ v) (hv2 : v ≤ B) : RC B (gU σ 7 b v) (gU τ 2 b v) ∧ FrC σ τ (gU σ 7 b v) (gU τ 2 b v) := by
  obtain ⟨a1, a2, a3, a4⟩ := h
  refine ⟨⟨a1, fun k h1 h2 => ?_, a3, a4⟩, ⟨fun k h1 h2 h3 => by rw [gU_k h2], fun k h1 h2 h3 => by rw [gU_k h2]⟩⟩
  rw [gU_at, gU_at]
  by_cases hk : k = b
  · rw [if_pos hk, if_pos hk]; exact ⟨rfl, hv, hv2⟩
  · rw [if_neg hk, if_neg hk]; exact a2 k h1 h2
theorem row_up {B b v : Int} {σ τ : gM} (h : RC B σ τ) : RC B (gU σ 8 b v) (gU τ 3 b v) ∧ FrC σ τ (gU σ 8 b v) (gU τ 3 b v) := by
  obtain ⟨a1, a2, a3, a4⟩ := h
  refine ⟨⟨a1, a2, fun k h1 h2 => ?_, a4⟩, ⟨fun k h1 h2 h3 => by rw [gU_k h3], fun k h1 h2 h3 => by rw [gU_k h3]⟩⟩
  rw [gU_at, gU_at]
  by_cases hk : k = b
  · rw [if_pos hk, if_pos hk]
  · rw [if_neg hk, if_neg hk]; exact a3 k h1 h2
theorem bitC_up {B a v : Int} {σ τ : gM} (h : RC B σ τ) (hv : 0 ≤ v) (hv2 : v < 8192) : RC B (gU σ 6 a v) (gU τ 1 a v) ∧ FrC σ τ (gU σ 6 a v) (gU τ 1 a v) := by
  obtain ⟨a1, a2, a3, a4⟩ := h
  refine ⟨⟨fun k h1 h2 => ?_, a2, a3, a4⟩, ⟨fun k h1 h2 h3 => by rw [gU_k h1], fun k h1 h2 h3 => by rw [gU_k h1]⟩⟩
  rw [gU_at, gU_at]
  by_cases hk : k = a
  · rw [if_pos hk, if_pos hk]; exact ⟨rfl, hv, hv2⟩
  · rw [if_neg hk, if_neg hk]; exact a1 k h1 h2
/-- one neighbour that is there -/
theorem wear_R {B nb : Int} {σ τ : gM} (h : RC B σ τ) (hB0 : 0 ≤ B) (h1 : 0 ≤ nb) (h2 : nb < 64) (hB : B + 1 ≤ 1073741824) :
    ∃ s s', (∀ (rec : gM → Int → gO) (p1 p4 : Int), 0 ≤ p1 → p1 < 64 → ¬ p1 + 4 < nb → l_Ce_openFor_57 p1 p4 rec σ nb = rec s (nb + 8)) ∧ F_Mo_wearOut τ (nb % 4) (nb / 4) = some (s', 0) ∧ RC (B + 1) s s' ∧ FrC σ τ s s' := by
  have hw := h.2.1 nb h1 h2
  have hl := h.2.2.2
  have hq : 4 * (nb / 4) + nb % 4 = nb := by omega
  have hq2 : 32 * (nb / 4) + 8 * (nb % 4) = nb * 8 := by omega
  obtain ⟨w1, f1⟩ := wear_up (b := nb) (v := σ 7 nb + 1) (Rce.mono h (show B ≤ B + 1 by omega)) (by omega) (by omega)
  have e7 : σ 7 nb = τ 2 nb := hw.1
  have el : gU σ 7 nb (σ 7 nb + 1) 5 3 = τ 0 1 := hl.1
  have eM : F_Mo_wearOut τ (nb % 4) (nb / 4) = (if 0 < τ 0 1 then (gi nb 64 (if gU τ 2 nb (τ 2 nb + 1) 2 nb < τ 0 1 then (j_Mo_wearOut_73 (gU τ 2 nb (τ 2 nb + 1))) else (ga (32 * (nb / 4)) fun a7 => ga (8 * (nb % 4)) fun a8 => ga (a7 + a8) fun a9 => gi a9 512 <| gw (gU τ 2 nb (τ 2 nb + 1)) 1 512 a9 (gXor (gU τ 2 nb (τ 2 nb + 1) 1 a9) 8) fun s10 => gw s10 2 64 nb 0 fun s11 => j_Mo_wearOut_73 s11))) else (j_Mo_wearOut_73 (gU τ 2 nb (τ 2 nb + 1)))) := by
    unfold F_Mo_wearOut
    rw [gk_e (in_y (by omega)), if_neg (by decide), ga_p (by omega), ga_p (by omega), hq, gi_p ⟨h1, h2⟩, ga_p (by omega), gw_p ⟨h1, h2⟩]
    rfl
  have eC : ∀ (rec : gM → Int → gO) (p1 p4 : Int), 0 ≤ p1 → p1 < 64 → ¬ p1 + 4 < nb → l_Ce_openFor_57 p1 p4 rec σ nb = (if gU σ 7 nb (σ 7 nb + 1) 5 3 = 0 then (j_Ce_openFor_138 rec (gU σ 7 nb (σ 7 nb + 1)) p1 p4 nb) else (if gU σ 7 nb (σ 7 nb + 1) 7 nb < gU σ 7 nb (σ 7 nb + 1) 5 3 then (j_Ce_openFor_138 rec (gU σ 7 nb (σ 7 nb + 1)) p1 p4 nb) else (rec (gU (gU (gU σ 7 nb (σ 7 nb + 1)) 6 (nb * 8) (gXor (gU σ 7 nb (σ 7 nb + 1) 6 (nb * 8)) 8)) 7 nb 0) (nb + 8)))) := by
    intro rec p1 p4 p0 p64 hn
    unfold l_Ce_openFor_57
    rw [ga_p (by omega), if_neg hn, if_neg (show ¬ nb < 0 by omega), if_pos h2, gi_p ⟨h1, h2⟩, ga_p (by omega), gw_p ⟨h1, h2⟩]
    by_cases c1 : gU σ 7 nb (σ 7 nb + 1) 5 3 = 0
    · rw [if_pos c1, if_pos c1]
    · rw [if_neg c1, if_neg c1, gi_p ⟨h1, h2⟩]
      by_cases c2 : gU σ 7 nb (σ 7 nb + 1) 7 nb < gU σ 7 nb (σ 7 nb + 1) 5 3
      · rw [if_pos c2, if_pos c2]
      · rw [if_neg c2, if_neg c2, ga_p (by omega), gi_p (by omega), gw_p (by omega), gw_p ⟨h1, h2⟩]
        unfold j_Ce_openFor_138
        rw [ga_p (by omega)]
  rw [e7] at w1 f1
  by_cases c0 : τ 0 1 = 0
  · refine ⟨gU σ 7 nb (σ 7 nb + 1), gU τ 2 nb (τ 2 nb + 1), fun rec p1 p4 p0 p64 hn => ?_, ?_, by rw [e7]; exact w1, by rw [e7]; exact f1⟩
    · rw [eC rec p1 p4 p0 p64 hn, el, if_pos c0]
      unfold j_Ce_openFor_138
      rw [ga_p (by omega)]
    · rw [eM, if_neg (show ¬ 0 < τ 0 1 by omega)]; rfl
  · have c0' : 0 < τ 0 1 := by omega
    have cc : gU σ 7 nb (σ 7 nb + 1) 7 nb = τ 2 nb + 1 := by rw [gU_e, e7]
    have cc' : gU τ 2 nb (τ 2 nb + 1) 2 nb = τ 2 nb + 1 := gU_e
    by_cases c1 : τ 2 nb + 1 < τ 0 1
    · refine ⟨gU σ 7 nb (σ 7 nb + 1), gU τ 2 nb (τ 2 nb + 1), fun rec p1 p4 p0 p64 hn => ?_, ?_, by rw [e7]; exact w1, by rw [e7]; exact f1⟩
      · rw [eC rec p1 p4 p0 p64 hn, el, if_neg c0, cc, if_pos c1]
        unfold j_Ce_openFor_138
        rw [ga_p (by omega)]
      · rw [eM, if_pos c0', gi_p ⟨h1, h2⟩, cc', if_pos c1]; rfl
    · have hb := w1.1 (nb * 8) (by omega) (by omega)
      obtain ⟨x1, x2⟩ := gXor_ok (b := 8) hb.2.1 hb.2.2 (by decide) (by decide)
      obtain ⟨w2, f2⟩ := bitC_up (a := nb * 8) w1 x1 x2
      obtain ⟨w3, f3⟩ := wear_up (b := nb) (v := 0) w2 (by decide) (by omega)
      refine ⟨gU (gU (gU σ 7 nb (τ 2 nb + 1)) 6 (nb * 8) (gXor (gU τ 2 nb (τ 2 nb + 1) 1 (nb * 8)) 8)) 7 nb 0, gU (gU (gU τ 2 nb (τ 2 nb + 1)) 1 (nb * 8) (gXor (gU τ 2 nb (τ 2 nb + 1) 1 (nb * 8)) 8)) 2 nb 0, fun rec p1 p4 p0 p64 hn => ?_, ?_, w3, f1.trans (f2.trans f3)⟩
      · rw [eC rec p1 p4 p0 p64 hn, el, if_neg c0, cc, if_neg c1, e7, hb.1]
      · rw [eM, if_pos c0', gi_p ⟨h1, h2⟩, cc', if_neg c1, ga_p (by omega), ga_p (by omega), ga_p (by omega), hq2, gi_p (by omega), gw_p (by omega), gw_p ⟨h1, h2⟩]; rfl
/-- one neighbour, there or not -/
theorem wear_R2 {B nb row bank : Int} {σ τ : gM} (h : RC B σ τ) (hB0 : 0 ≤ B) (hbank : 0 ≤ bank ∧ bank < 4) (hrow : -1 ≤ row ∧ row ≤ 16) (hnb : nb = 4 * row + bank) (hB : B + 1 ≤ 1073741824) :
    ∃ s s', (∀ (rec : gM → Int → gO) (p1 p4 : Int), 0 ≤ p1 → p1 < 64 → ¬ p1 + 4 < nb → l_Ce_openFor_57 p1 p4 rec σ nb = rec s (nb + 8)) ∧ F_Mo_wearOut τ bank row = some (s', 0) ∧ RC (B + 1) s s' ∧ FrC σ τ s s' := by
  by_cases hr : 0 ≤ row ∧ row ≤ 15
  · have := wear_R h hB0 (show 0 ≤ nb by omega) (by omega) hB
    rwa [show nb % 4 = bank by omega, show nb / 4 = row by omega] at this
  · refine ⟨σ, τ, fun rec p1 p4 p0 p64 hn => ?_, ?_, Rce.mono h (by omega), FrC.refl σ τ⟩
    · unfold l_Ce_openFor_57
      rw [ga_p (by omega), if_neg hn]
      unfold j_Ce_openFor_138
      by_cases h0 : nb < 0
      · rw [if_pos h0, ga_p (by omega)]
      · rw [if_neg h0, if_neg (show ¬ nb < 64 by omega), ga_p (by omega)]
    · unfold F_Mo_wearOut
      rw [gk_e (in_n (by omega)), if_pos rfl]
/-- the row's opening itself -/
theorem openC_R {B b t : Int} {σ τ : gM} (h : RC B σ τ) (hB0 : 0 ≤ B) (h1 : 0 ≤ b) (h2 : b < 64) (hB : B + 2 ≤ 1073741824) :
    ∃ s s' : gM, j_Ce_openFor_36 σ b (b % 4) (b / 4) t = some (s, t) ∧ (∀ (τ0 : gM), F_Mo_tick τ0 1 t = some (τ, 0) → j_Mo_openFor_37_0 τ0 (b % 4) (b / 4) t 1 = some (s', 0)) ∧ RC (B + 2) s s' ∧ FrC σ τ s s' := by
  obtain ⟨r1, f1⟩ := row_up (b := b % 4) (v := b / 4) h
  obtain ⟨r2, f2⟩ := wear_up (b := b) (v := 0) r1 (by decide) hB0
  obtain ⟨sa, sa', ca, ma, ra, fa⟩ := wear_R2 (nb := b - 4) (row := b / 4 - 1) (bank := b % 4) r2 hB0 (by omega) (by omega) (by omega) (by omega)
  obtain ⟨sb, sb', cb, mb, rb, fb⟩ := wear_R2 (nb := b + 4) (row := b / 4 + 1) (bank := b % 4) ra (by omega) (by omega) (by omega) (by omega) (by omega)
  refine ⟨sb, sb', ?_, fun τ0 e0 => ?_, Rce.mono rb (by omega), f1.trans (f2.trans (fa.trans fb))⟩
  · unfold j_Ce_openFor_36
    rw [gw_p (by omega), gw_p ⟨h1, h2⟩, ga_p (by omega)]
    show l_Ce_openFor_57 b t (gl1 (l_Ce_openFor_57 b t) 199) _ (b - 4) = _
    rw [ca _ b t h1 h2 (by omega), show b - 4 + 8 = b + 4 by omega]
    show l_Ce_openFor_57 b t (gl1 (l_Ce_openFor_57 b t) 198) sa (b + 4) = _
    rw [cb _ b t h1 h2 (by omega)]
    show l_Ce_openFor_57 b t (gl1 (l_Ce_openFor_57 b t) 197) sb (b + 4 + 8) = _
    unfold l_Ce_openFor_57
    rw [ga_p (by omega), if_pos (by omega)]
  · unfold j_Mo_openFor_37_0
    rw [gk_e e0, gw_p (by omega), ga_p (by omega), ga_p (by omega), show 4 * (b / 4) + b % 4 = b by omega, gw_p ⟨h1, h2⟩, ga_p (by omega), gk_e ma, ga_p (by omega), gk_e mb]
/-- a row opened, its ticks spent -/
theorem open_R {B b : Int} {σ τ : gM} (h : R0 B σ τ) (h1 : 0 ≤ b) (h2 : b < 64) (hB : B + 7 ≤ 1073741824) :
    ∃ s1 t s s', F_Ce_openFor σ b = some (s1, t) ∧ F_Le_spend s1 1 t = some (s, 0) ∧ F_Mo_openFor τ b = some (s', 0) ∧ R0 (B + 7) s s' ∧ Fr0 σ τ s s' := by
  have hB0 : 0 ≤ B := by have := h.2.2.2.2.2; omega
  have h8 := h.1.2.2.1 (b % 4) (by omega) (by omega)
  have hti := h.2.2.1
  have hs3 : ∀ k, 0 ≤ k → k < 8 → 0 ≤ σ 3 k ∧ σ 3 k ≤ B := fun k a b => by
    have := tsum_nn (fun c a b => (hti.2.2.1 c a b).2) k a b
    have := (hti.2.2.1 k a b).1
    have := hti.2.2.2.2
    omega
  have hK : 0 ≤ spK σ 1 ∧ spK σ 1 < 8 := by unfold spK; split <;> omega
  have h4 : 0 ≤ σ 4 14 ∧ σ 4 14 ≤ B := by
    have e1 := tsum_nn (fun c a b => (hti.2.2.1 c a b).2) 0 (by omega) (by omega)
    have e2 := hti.2.2.2.1
    have e3 := hti.2.2.2.2
    omega
  by_cases ho : τ 3 (b % 4) = b / 4
  · -- open already: nothing but a spending of no ticks
    obtain ⟨s, s', e1, e2, r, f⟩ := spend_R (n := 0) (c := 1) h (by decide) (by decide) (by decide) (by omega)
    refine ⟨σ, 0, σ, τ, ?_, ?_, ?_, h.mono (by omega), Fr0.refl σ τ⟩
    · unfold F_Ce_openFor
      rw [gd_p (by omega), gv_p, gd_p (by omega), gv_p, gi_p (by omega), if_pos (by rw [h8]; exact ho)]
    · rw [spend_e (by decide) (by decide) (by decide) (by have := hs3 _ hK.1 hK.2; omega) (by omega)]
      congr 2
      funext k i
      unfold spC gU
      by_cases q1 : k = 4 ∧ i = 14
      · rw [if_pos q1, q1.1, q1.2]; omega
      · rw [if_neg q1]
        by_cases q2 : k = 3 ∧ i = spK σ 1
        · rw [if_pos q2, q2.1, q2.2]; omega
        · rw [if_neg q2]
    · unfold F_Mo_openFor
      rw [gd_p (by omega), gv_p, gd_p (by omega), gv_p, gi_p (by omega), if_pos ho]
  · have key : ∀ t, 0 ≤ t → t ≤ 5 → ∃ s1 s s', j_Ce_openFor_36 σ b (b % 4) (b / 4) t = some (s1, t) ∧ F_Le_spend s1 1 t = some (s, 0) ∧ j_Mo_openFor_37_0 τ (b % 4) (b / 4) t 1 = some (s', 0) ∧ R0 (B + 7) s s' ∧ Fr0 σ τ s s' := by
      intro t ht ht2
      obtain ⟨σt, τt, e1, e2, r, f⟩ := spend_R (n := t) (c := 1) h (by decide) (by decide) ht (by omega)
      rw [spend_e (by decide) (by decide) ht (by have := hs3 _ hK.1 hK.2; omega) (by omega)] at e1
      have e1 : spC σ 1 t = σt := by injection e1 with q; injection q
      subst e1
      have hct : RC (B + t) σ τt := r.1
      obtain ⟨s1, s', c1, m1, rc, fc⟩ := openC_R (t := t) hct (by omega) h1 h2 (by omega)
      have k3 := fc.1 3 (by decide) (by decide) (by decide)
      have k4 := fc.1 4 (by decide) (by decide) (by decide)
      have k2 := fc.1 2 (by decide) (by decide) (by decide)
      have kk : spK s1 1 = spK σ 1 := by unfold spK; rw [k2]
      have c3 : spC s1 1 t 3 = spC σ 1 t 3 := by
        funext i; unfold spC gU; rw [kk, k3]; by_cases q : (3 : Nat) = 3 ∧ i = spK σ 1 <;> simp [q, k3]
      have c4 : spC s1 1 t 4 = spC σ 1 t 4 := by
        funext i; unfold spC gU; rw [k4]; simp [k4]
      have co : ∀ k, k ≠ 3 → k ≠ 4 → spC s1 1 t k = s1 k := fun k h3 h4 => by unfold spC; rw [gU_k h4, gU_k h3]
      refine ⟨s1, spC s1 1 t, s', c1, ?_, m1 τ e2, ⟨?_, ?_, ?_, ?_⟩, ?_⟩
      · exact spend_e (by decide) (by decide) ht (by rw [kk, k3]; have := hs3 _ hK.1 hK.2; omega) (by rw [k4]; omega)
      · rw [co 6 (by decide) (by decide), co 7 (by decide) (by decide), co 8 (by decide) (by decide), co 5 (by decide) (by decide)]
        exact Rce.mono rc (by omega)
      · rw [co 1 (by decide) (by decide), fc.1 1 (by decide) (by decide) (by decide), fc.2 0 (by decide) (by decide) (by decide)]
        exact r.2.1
      · rw [c3, c4, co 2 (by decide) (by decide), k2, fc.2 29 (by decide) (by decide) (by decide), fc.2 0 (by decide) (by decide) (by decide)]
        exact r.2.2.1.mono (by omega)
      · rw [c4, fc.2 30 (by decide) (by decide) (by decide), fc.2 0 (by decide) (by decide) (by decide)]
        exact r.2.2.2.mono (by omega)
      · refine ⟨fun k h1 h2 h3 h4 h5 => ?_, ?_, fun k h1 h2 h3 h4 h5 h6 => ?_, fun i hi => ?_⟩
        · rw [co k h1 h2]; exact fc.1 k h3 h4 h5
        · rw [c4]; exact f.2.1
        · rw [fc.2 k h2 h3 h4]; exact f.2.2.1 k h1 h2 h3 h4 h5 h6
        · rw [fc.2 0 (by decide) (by decide) (by decide)]; exact f.2.2.2 i hi
    by_cases hn : τ 3 (b % 4) = -4
    · obtain ⟨s1, s, s', c1, c2, c3, c4, c5⟩ := key 3 (by decide) (by decide)
      refine ⟨s1, 3, s, s', ?_, c2, ?_, c4, c5⟩
      · unfold F_Ce_openFor
        rw [gd_p (by omega), gv_p, gd_p (by omega), gv_p, gi_p (by omega), if_neg (by rw [h8]; exact ho), gi_p (by omega), if_pos (by rw [h8]; exact hn)]
        exact c1
      · unfold F_Mo_openFor
        rw [gd_p (by omega), gv_p, gd_p (by omega), gv_p, gi_p (by omega), if_neg ho, gi_p (by omega), if_pos hn]
        exact c3
    · obtain ⟨s1, s, s', c1, c2, c3, c4, c5⟩ := key 5 (by decide) (by decide)
      refine ⟨s1, 5, s, s', ?_, c2, ?_, c4, c5⟩
      · unfold F_Ce_openFor
        rw [gd_p (by omega), gv_p, gd_p (by omega), gv_p, gi_p (by omega), if_neg (by rw [h8]; exact ho), gi_p (by omega), if_neg (by rw [h8]; exact hn)]
        exact c1
      · unfold F_Mo_openFor
        rw [gd_p (by omega), gv_p, gd_p (by omega), gv_p, gi_p (by omega), if_neg ho, gi_p (by omega), if_neg hn]
        exact c3
theorem sim_open {B b : Int} {σ τ : gM} {K : gM → Int → gO} {K' : gM → Int → gO} {Q : gM → Int → gM → Int → Prop} (h : R0 B σ τ) (h1 : 0 ≤ b) (h2 : b < 64) (hB : B + 7 ≤ 1073741824)
    (k : ∀ s s', R0 (B + 7) s s' → Fr0 σ τ s s' → Sim (K s 0) (K' s' 0) Q) : Sim (gk (F_Ce_openFor σ b) fun s1 t => gk (F_Le_spend s1 1 t) K) (gk (F_Mo_openFor τ b) K') Q := by
  obtain ⟨s1, t, s, s', e1, e2, e3, r, f⟩ := open_R h h1 h2 hB
  rw [gk_e e1, gk_e e2, gk_e e3]
  exact k s s' r f
