/-! marks: coded, righted, valueOf of the class; code, mend, value of the model -/
def sgN (x : Nat) : Nat → Nat
  | 0 => 0
  | k + 1 => if x / 2 ^ (k + 1) % 2 = 1 then sgN x k ^^^ (k + 1) else sgN x k
def odN (x : Nat) : Nat → Nat
  | 0 => x % 2
  | k + 1 => (odN x k + x / 2 ^ (k + 1) % 2) % 2
theorem sgN_lt (x : Nat) : ∀ k, k < 13 → sgN x k < 16
  | 0, _ => Nat.le_of_ble_eq_true rfl
  | k + 1, h => by
    have ih := sgN_lt x k (by omega)
    unfold sgN
    split
    · exact Nat.xor_lt_two_pow (n := 4) ih (by omega)
    · exact ih
theorem odN_lt (x : Nat) : ∀ k, odN x k < 2
  | 0 => Nat.mod_lt _ (by decide)
  | k + 1 => Nat.mod_lt _ (by decide)
def rN (x : Nat) : Int := if odN x 12 = 0 then (if sgN x 12 = 0 then (x : Int) else -5) else (if sgN x 12 < 13 then ((x ^^^ 2 ^ (sgN x 12) : Nat) : Int) else -5)
theorem rN_ok {x : Nat} (h : x < 8192) : rN x = -5 ∨ (0 ≤ rN x ∧ rN x < 8192) := by
  unfold rN
  split
  · split
    · exact Or.inr ⟨by omega, by omega⟩
    · exact Or.inl rfl
  · split
    · rename_i h1 h2
      have h3 : x ^^^ 2 ^ (sgN x 12) < 2 ^ 13 := Nat.xor_lt_two_pow h (Nat.pow_lt_pow_right (by decide) h2)
      exact Or.inr ⟨by omega, by omega⟩
    · exact Or.inl rfl
theorem gXor01 {a b : Nat} (ha : a < 2) (hb : b < 2) : gXor a b = (((a + b) % 2 : Nat) : Int) := by
  rcases (show a = 0 ∨ a = 1 by omega) with rfl | rfl <;> rcases (show b = 0 ∨ b = 1 by omega) with rfl | rfl <;> decide +kernel
theorem righted_e {σ : gM} {x : Nat} (h : x < 8192) : F_Ce_righted σ (x : Int) = some (σ, rN x) := by
  unfold F_Ce_righted
  have e0 : gAnd (x : Int) 1 = ((odN x 0 : Nat) : Int) := by
    rw [show (1 : Int) = ((1 : Nat) : Int) from rfl, gAnd_n (by omega), Nat.and_one_is_mod]
    rfl
  rw [gv_p, e0]
  refine to_gl3 (lo := 1) (hi := 13) (R := fun o => o = some (σ, rN x)) (fun j s a b => s = σ ∧ ∀ k : Nat, j = (k : Int) + 1 → a = ((odN x k : Nat) : Int) ∧ b = ((sgN x k : Nat) : Int)) ?_ ?_ 200 1 σ _ 0 (by omega) (by omega) (by omega) ⟨rfl, fun k hk => ?_⟩
  · rintro rec j s a b h1 h2 ⟨rfl, hI⟩ ih
    obtain ⟨k, rfl⟩ : ∃ k : Nat, j = (k : Int) + 1 := ⟨(j - 1).toNat, by omega⟩
    obtain ⟨rfl, rfl⟩ := hI k rfl
    have hk : k < 12 := by omega
    unfold l_Ce_righted_8
    rw [if_pos h2, show ((k : Int) + 1) = ((k + 1 : Nat) : Int) from rfl, gbit (by omega) (by omega)]
    have hs := sgN_lt x k (by omega)
    have ho := odN_lt x k
    by_cases hb : x / 2 ^ (k + 1) % 2 = 0
    · rw [if_pos (by omega)]
      unfold j_Ce_righted_33
      rw [ga_p (by omega)]
      refine ih s _ _ ⟨rfl, fun k' hk' => ?_⟩
      obtain rfl : k' = k + 1 := by omega
      rw [odN.eq_2, sgN.eq_2, if_neg (by omega)]
      exact ⟨by omega, rfl⟩
    · rw [if_neg (by omega), gv_p, gv_p, gXor_n (by omega) (by omega), show (1 : Int) = ((1 : Nat) : Int) from rfl, gXor01 ho (by decide)]
      unfold j_Ce_righted_33
      rw [ga_p (by omega)]
      refine ih s _ _ ⟨rfl, fun k' hk' => ?_⟩
      obtain rfl : k' = k + 1 := by omega
      rw [odN.eq_2, sgN.eq_2, if_pos (by omega)]
      exact ⟨by omega, rfl⟩
  · rintro rec s a b ⟨rfl, hI⟩
    obtain ⟨rfl, rfl⟩ := hI 12 rfl
    unfold l_Ce_righted_8
    rw [if_neg (by decide)]
    dsimp only
    have hs := sgN_lt x 12 (by omega)
    unfold rN
    by_cases h0 : odN x 12 = 0
    · rw [if_pos (by omega), if_pos h0]
      by_cases h1 : sgN x 12 = 0
      · rw [if_pos (by omega), if_pos h1]; rfl
      · rw [if_neg (by omega), if_neg h1]; rfl
    · rw [if_neg (by omega), if_neg h0]
      by_cases h1 : sgN x 12 < 13
      · rw [if_pos (by omega), if_pos h1, gShl1 _ (by omega), gXor_n (by omega) (Nat.lt_trans (Nat.pow_lt_pow_right (by decide) h1) (by decide))]; rfl
      · rw [if_neg (by omega), if_neg h1]; rfl
  · obtain rfl : k = 0 := by omega
    exact ⟨rfl, rfl⟩
theorem sign_e {τ : gM} {x : Nat} (h : x < 2147483648) : F_Mo_sign τ (x : Int) = some (τ, ((sgN x 12 : Nat) : Int)) := by
  unfold F_Mo_sign
  refine to_gl2 (lo := 1) (hi := 13) (R := fun o => o = some (τ, ((sgN x 12 : Nat) : Int))) (fun j s a => s = τ ∧ ∀ k : Nat, j = (k : Int) + 1 → a = ((sgN x k : Nat) : Int)) ?_ ?_ 200 1 τ _ (by omega) (by omega) (by omega) ⟨rfl, fun k hk => ?_⟩
  · rintro rec j s a h1 h2 ⟨rfl, hI⟩ ih
    obtain ⟨k, rfl⟩ : ∃ k : Nat, j = (k : Int) + 1 := ⟨(j - 1).toNat, by omega⟩
    obtain rfl := hI k rfl
    have hk : k < 12 := by omega
    unfold l_Mo_sign_4
    rw [if_pos h2, show ((k : Int) + 1) = ((k + 1 : Nat) : Int) from rfl, gbit h (by omega)]
    have hs := sgN_lt x k (by omega)
    by_cases hb : x / 2 ^ (k + 1) % 2 = 1
    · rw [if_pos (by omega)]
      unfold j_Mo_sign_25
      rw [gv_p, gXor_n (by omega) (by omega), ga_p (by omega)]
      refine ih s _ ⟨rfl, fun k' hk' => ?_⟩
      obtain rfl : k' = k + 1 := by omega
      rw [sgN.eq_2, if_pos hb]
    · rw [if_neg (by omega)]
      unfold j_Mo_sign_25
      rw [gv_p, show (0 : Int) = ((0 : Nat) : Int) from rfl, gXor_n (by omega) (by omega), ga_p (by omega), Nat.xor_zero]
      refine ih s _ ⟨rfl, fun k' hk' => ?_⟩
      obtain rfl : k' = k + 1 := by omega
      rw [sgN.eq_2, if_neg hb]
  · rintro rec s a ⟨rfl, hI⟩
    obtain rfl := hI 12 rfl
    unfold l_Mo_sign_4
    rw [if_neg (by decide)]
  · obtain rfl : k = 0 := by omega
    rfl
theorem odd_e {τ : gM} {x : Nat} (h : x < 2147483648) : F_Mo_odd τ (x : Int) = some (τ, ((odN x 12 : Nat) : Int)) := by
  unfold F_Mo_odd
  refine to_gl2 (lo := 0) (hi := 13) (R := fun o => o = some (τ, ((odN x 12 : Nat) : Int))) (fun j s a => s = τ ∧ (j = 0 → a = 0) ∧ ∀ k : Nat, j = (k : Int) + 1 → a = ((odN x k : Nat) : Int)) ?_ ?_ 200 0 τ _ (by omega) (by omega) (by omega) ⟨rfl, fun _ => rfl, fun k hk => by omega⟩
  · rintro rec j s a h1 h2 ⟨rfl, hI0, hI⟩ ih
    unfold l_Mo_odd_4
    rcases (show j = 0 ∨ ∃ k : Nat, j = (k : Int) + 1 from if hj : j = 0 then Or.inl hj else Or.inr ⟨(j - 1).toNat, by omega⟩) with rfl | ⟨k, rfl⟩
    · obtain rfl := hI0 rfl
      rw [if_pos h2, show (0 : Int) = ((0 : Nat) : Int) from rfl, gbit h (by omega), gv_p, gXor01 (by decide) (Nat.mod_lt _ (by decide)), ga_p (by omega)]
      refine ih s _ ⟨rfl, fun q => by omega, fun k' hk' => ?_⟩
      obtain rfl : k' = 0 := by omega
      rw [odN.eq_1, Nat.pow_zero, Nat.div_one]
      omega
    · obtain rfl := hI k rfl
      rw [if_pos h2, show ((k : Int) + 1) = ((k + 1 : Nat) : Int) from rfl, gbit h (by omega), gv_p, gXor01 (odN_lt x k) (Nat.mod_lt _ (by decide)), ga_p (by omega)]
      refine ih s _ ⟨rfl, fun q => by omega, fun k' hk' => ?_⟩
      obtain rfl : k' = k + 1 := by omega
      rfl
  · rintro rec s a ⟨rfl, -, hI⟩
    obtain rfl := hI 12 rfl
    unfold l_Mo_odd_4
    rw [if_neg (by decide)]
theorem mend_e {τ : gM} {x : Nat} (h : x < 8192) : F_Mo_mend τ (x : Int) = some (τ, rN x) := by
  unfold F_Mo_mend
  rw [gk_e (sign_e (by omega)), gk_e (odd_e (by omega))]
  have hs := sgN_lt x 12 (by omega)
  unfold rN
  by_cases h0 : odN x 12 = 0
  · rw [if_pos (by omega), if_pos h0]
    by_cases h1 : sgN x 12 = 0
    · rw [if_pos (by omega), if_pos h1]; rfl
    · rw [if_neg (by omega), if_neg h1]; rfl
  · rw [if_neg (by omega), if_neg h0]
    by_cases h1 : sgN x 12 < 13
    · rw [if_neg (by omega), if_pos h1, gShl1 _ (by omega), gXor_n (by omega) (Nat.lt_trans (Nat.pow_lt_pow_right (by decide) h1) (by decide))]; rfl
    · rw [if_pos (by omega), if_neg h1]; rfl
/-! values -/
def plN (k : Nat) : Nat := ([3, 5, 6, 7, 9, 10, 11, 12] : List Nat).getD k 0
def vN (x : Nat) : Nat := ((x / 2 ^ 3 &&& 1) ||| (x / 2 ^ 4 &&& 14)) ||| (x / 2 ^ 5 &&& 240)
def vmN (x : Nat) : Nat → Nat
  | 0 => 0
  | k + 1 => vmN x k ||| (x / 2 ^ (plN k) % 2) * 2 ^ k
theorem vN_all : ∀ a, a < 128 → ∀ b, b < 64 → vmN (64 * a + b) 8 = vN (64 * a + b) ∧ vN (64 * a + b) < 256 := by decide +kernel
theorem vN_e {x : Nat} (h : x < 8192) : vmN x 8 = vN x ∧ vN x < 256 := by
  have := vN_all (x / 64) (by omega) (x % 64) (by omega)
  rwa [show 64 * (x / 64) + x % 64 = x by omega] at this
theorem vmN_lt (x : Nat) : ∀ k, vmN x k < 2 ^ k
  | 0 => Nat.le_of_ble_eq_true rfl
  | k + 1 => by
    have ih := vmN_lt x k
    unfold vmN
    refine Nat.or_lt_two_pow (Nat.lt_of_lt_of_le ih (Nat.pow_le_pow_right (by decide) (by omega))) ?_
    have hb : x / 2 ^ (plN k) % 2 < 2 := Nat.mod_lt _ (by decide)
    rw [Nat.pow_succ]
    have hp : 0 < 2 ^ k := Nat.pow_pos (by decide)
    rcases (show x / 2 ^ (plN k) % 2 = 0 ∨ x / 2 ^ (plN k) % 2 = 1 by omega) with e | e <;> rw [e] <;> omega
theorem valueOf_e {σ : gM} {x : Nat} (h : x < 8192) : F_Ce_valueOf σ (x : Int) = some (σ, ((vN x : Nat) : Int)) := by
  unfold F_Ce_valueOf
  have e3 : gShr (x : Int) 3 = ((x / 2 ^ 3 : Nat) : Int) := gShr_n (k := 3) (by omega) (by decide)
  have e4 : gShr (x : Int) 4 = ((x / 2 ^ 4 : Nat) : Int) := gShr_n (k := 4) (by omega) (by decide)
  have e5 : gShr (x : Int) 5 = ((x / 2 ^ 5 : Nat) : Int) := gShr_n (k := 5) (by omega) (by decide)
  have f3 : gAnd ((x / 2 ^ 3 : Nat) : Int) 1 = ((x / 2 ^ 3 &&& 1 : Nat) : Int) := gAnd_n (b := 1) (by omega)
  have f4 : gAnd ((x / 2 ^ 4 : Nat) : Int) 14 = ((x / 2 ^ 4 &&& 14 : Nat) : Int) := gAnd_n (b := 14) (by omega)
  have f5 : gAnd ((x / 2 ^ 5 : Nat) : Int) 240 = ((x / 2 ^ 5 &&& 240 : Nat) : Int) := gAnd_n (b := 240) (by omega)
  have l3 : x / 2 ^ 3 &&& 1 < 2 ^ 8 := Nat.lt_of_le_of_lt Nat.and_le_right (by decide)
  have l4 : x / 2 ^ 4 &&& 14 < 2 ^ 8 := Nat.lt_of_le_of_lt Nat.and_le_right (by decide)
  have l5 : x / 2 ^ 5 &&& 240 < 2 ^ 8 := Nat.lt_of_le_of_lt Nat.and_le_right (by decide)
  have l34 : (x / 2 ^ 3 &&& 1) ||| (x / 2 ^ 4 &&& 14) < 2 ^ 8 := Nat.or_lt_two_pow l3 l4
  rw [e3, e4, e5, f3, f4, f5, gOr_n (Nat.lt_trans l3 (by decide)) (Nat.lt_trans l4 (by decide)), gOr_n (Nat.lt_trans l34 (by decide)) (Nat.lt_trans l5 (by decide))]
  rfl
theorem placeOf_e {τ : gM} {k : Nat} (h : k < 8) : F_Mo_placeOf τ (k : Int) = some (τ, ((plN k : Nat) : Int)) := by
  rcases (show k = 0 ∨ k = 1 ∨ k = 2 ∨ k = 3 ∨ k = 4 ∨ k = 5 ∨ k = 6 ∨ k = 7 by omega) with rfl | rfl | rfl | rfl | rfl | rfl | rfl | rfl <;> rfl
theorem plN_lt : ∀ k, k < 8 → plN k < 13 := by decide
theorem value_e {τ : gM} {x : Nat} (h : x < 8192) : F_Mo_value τ (x : Int) = some (τ, ((vN x : Nat) : Int)) := by
  unfold F_Mo_value
  refine to_gl2 (lo := 0) (hi := 8) (R := fun o => o = some (τ, ((vN x : Nat) : Int))) (fun j s a => s = τ ∧ ∀ k : Nat, j = (k : Int) → a = ((vmN x k : Nat) : Int)) ?_ ?_ 200 0 τ _ (by omega) (by omega) (by omega) ⟨rfl, fun k hk => ?_⟩
  · rintro rec j s a h1 h2 ⟨rfl, hI⟩ ih
    obtain ⟨k, rfl⟩ : ∃ k : Nat, j = (k : Int) := ⟨j.toNat, by omega⟩
    obtain rfl := hI k rfl
    have hk : k < 8 := by omega
    unfold l_Mo_value_4
    have hp := plN_lt k hk
    rw [if_pos h2, gk_e (placeOf_e hk), gbit (by omega) (by omega), gv_p]
    have hm : vmN x k < 2 ^ 8 := Nat.lt_of_lt_of_le (vmN_lt x k) (Nat.pow_le_pow_right (by decide) (by omega))
    have e : gShl ((x / 2 ^ plN k % 2 : Nat) : Int) (k : Int) = (((x / 2 ^ plN k % 2) * 2 ^ k : Nat) : Int) := by
      rcases (show x / 2 ^ plN k % 2 = 0 ∨ x / 2 ^ plN k % 2 = 1 by omega) with e | e <;> rw [e]
      · rw [Nat.zero_mul]; exact gShl0 k (by omega)
      · rw [Nat.one_mul]; exact gShl1 k (by omega)
    have hl : (x / 2 ^ plN k % 2) * 2 ^ k < 2 ^ 9 := by
      have h3 : (x / 2 ^ plN k % 2) * 2 ^ k ≤ 1 * 2 ^ k := Nat.mul_le_mul_right _ (by omega)
      have h4 : 2 ^ k < 2 ^ 9 := Nat.pow_lt_pow_right (by decide) (by omega)
      omega
    rw [e, gOr_n (by omega) (by omega), ga_p (by omega)]
    refine ih s _ ⟨rfl, fun k' hk' => ?_⟩
    obtain rfl : k' = k + 1 := by omega
    rfl
  · rintro rec s a ⟨rfl, hI⟩
    obtain rfl := hI 8 rfl
    unfold l_Mo_value_4
    rw [if_neg (by decide), (vN_e h).1]
  · obtain rfl : k = 0 := by omega
    rfl
/-! codes -/
def cdN (v : Nat) : Nat → Nat × Nat × Nat
  | 0 => (0, 0, 0)
  | k + 1 => if v / 2 ^ k % 2 = 0 then cdN v k else ((cdN v k).1 ||| 2 ^ (plN k), (cdN v k).2.1 ^^^ plN k, (cdN v k).2.2 ^^^ 1)
def ceN (c m o : Nat) : Nat → Nat × Nat
  | 0 => (c, o)
  | k + 1 => if m / 2 ^ k % 2 = 0 then ceN c m o k else ((ceN c m o k).1 ||| 2 ^ (2 ^ k), (ceN c m o k).2 ^^^ 1)
def ccN (v : Nat) : Nat := (ceN (cdN v 8).1 (cdN v 8).2.1 (cdN v 8).2.2 4).1 ||| (ceN (cdN v 8).1 (cdN v 8).2.1 (cdN v 8).2.2 4).2
def mdN (v : Nat) : Nat → Nat
  | 0 => 0
  | k + 1 => mdN v k ||| (v / 2 ^ k % 2) * 2 ^ (plN k)
def meN (c m : Nat) : Nat → Nat
  | 0 => c
  | k + 1 => meN c m k ||| (m / 2 ^ k % 2) * 2 ^ (2 ^ k)
def mcN (v : Nat) : Nat := meN (mdN v 8) (sgN (mdN v 8) 12) 4 ||| odN (meN (mdN v 8) (sgN (mdN v 8) 12) 4) 12
theorem cN_all : ∀ v, v < 256 → (∀ k, k < 9 → (cdN v k).1 < 8192 ∧ (cdN v k).2.1 < 16 ∧ (cdN v k).2.2 < 2 ∧ mdN v k < 8192) ∧
    (∀ k, k < 5 → (ceN (cdN v 8).1 (cdN v 8).2.1 (cdN v 8).2.2 k).1 < 8192 ∧ (ceN (cdN v 8).1 (cdN v 8).2.1 (cdN v 8).2.2 k).2 < 2 ∧ meN (mdN v 8) (sgN (mdN v 8) 12) k < 8192) ∧ mcN v = ccN v ∧ ccN v < 8192 := by decide +kernel
theorem gVP_e : ∀ k, k < 8 → gVP ((k : Nat) : Int) = ((plN k : Nat) : Int) := by decide
theorem pow8192 {k : Nat} (h : k < 13) : 2 ^ k < 8192 := Nat.pow_lt_pow_right (by decide) h
theorem coded_e {σ : gM} {v : Nat} (h : v < 256) : F_Ce_coded σ (v : Int) = some (σ, ((ccN v : Nat) : Int)) := by
  obtain ⟨A, B, -, -⟩ := cN_all v h
  unfold F_Ce_coded
  refine to_gl4 (lo := 0) (hi := 8) (R := fun o => o = some (σ, ((ccN v : Nat) : Int))) (fun j s a b c => s = σ ∧ ∀ k : Nat, j = (k : Int) → a = (((cdN v k).1 : Nat) : Int) ∧ b = (((cdN v k).2.1 : Nat) : Int) ∧ c = (((cdN v k).2.2 : Nat) : Int)) ?_ ?_ 200 0 σ _ _ _ (by omega) (by omega) (by omega) ⟨rfl, fun k hk => ?_⟩
  · rintro rec j s a b c h1 h2 ⟨rfl, hI⟩ ih
    obtain ⟨k, rfl⟩ : ∃ k : Nat, j = (k : Int) := ⟨j.toNat, by omega⟩
    obtain ⟨rfl, rfl, rfl⟩ := hI k rfl
    have hk : k < 8 := by omega
    have hA := A k (by omega)
    have hp := plN_lt k hk
    unfold l_Ce_coded_9
    rw [if_pos h2, gbit (by omega) (by omega)]
    by_cases hb : v / 2 ^ k % 2 = 0
    · rw [if_pos (by omega)]
      unfold j_Ce_coded_52
      rw [ga_p (by omega)]
      refine ih s _ _ _ ⟨rfl, fun k' hk' => ?_⟩
      obtain rfl : k' = k + 1 := by omega
      rw [cdN.eq_2, if_pos hb]
      exact ⟨rfl, rfl, rfl⟩
    · rw [if_neg (by omega), gi_p (by omega), gVP_e k hk, gShl1 _ (by omega), gv_p, gOr_n (by omega) (Nat.lt_trans (pow8192 hp) (by decide)), gi_p (by omega), gXor_n (by omega) (by omega), gv_p, show (1 : Int) = ((1 : Nat) : Int) from rfl, gXor_n (by omega) (by decide), gv_p]
      unfold j_Ce_coded_52
      rw [ga_p (by omega)]
      refine ih s _ _ _ ⟨rfl, fun k' hk' => ?_⟩
      obtain rfl : k' = k + 1 := by omega
      rw [cdN.eq_2, if_neg hb]
      exact ⟨rfl, rfl, rfl⟩
  · rintro rec s a b c ⟨rfl, hI⟩
    obtain ⟨rfl, rfl, rfl⟩ := hI 8 rfl
    unfold l_Ce_coded_9
    rw [if_neg (by decide)]
    dsimp only
    have hA := A 8 (by omega)
    refine to_gl3 (lo := 0) (hi := 4) (R := fun o => o = some (s, ((ccN v : Nat) : Int))) (fun j t a b => t = s ∧ ∀ k : Nat, j = (k : Int) → a = (((ceN (cdN v 8).1 (cdN v 8).2.1 (cdN v 8).2.2 k).1 : Nat) : Int) ∧ b = (((ceN (cdN v 8).1 (cdN v 8).2.1 (cdN v 8).2.2 k).2 : Nat) : Int)) ?_ ?_ 200 0 s _ _ (by omega) (by omega) (by omega) ⟨rfl, fun k hk => ?_⟩
    · rintro rec j t a b h1 h2 ⟨rfl, hI2⟩ ih
      obtain ⟨k, rfl⟩ : ∃ k : Nat, j = (k : Int) := ⟨j.toNat, by omega⟩
      obtain ⟨rfl, rfl⟩ := hI2 k rfl
      have hk : k < 4 := by omega
      have hB := B k (by omega)
      have hp : 2 ^ k < 13 := Nat.lt_of_le_of_lt (Nat.pow_le_pow_right (by decide) (show k ≤ 3 by omega)) (by decide)
      unfold l_Ce_coded_61
      rw [if_pos h2, gbit (by omega) (by omega)]
      by_cases hb : (cdN v 8).2.1 / 2 ^ k % 2 = 0
      · rw [if_pos (by omega)]
        unfold j_Ce_coded_92
        rw [ga_p (by omega)]
        refine ih t _ _ ⟨rfl, fun k' hk' => ?_⟩
        obtain rfl : k' = k + 1 := by omega
        rw [ceN.eq_2, if_pos hb]
        exact ⟨rfl, rfl⟩
      · rw [if_neg (by omega), gShl1 k (by omega), gShl1 _ (by omega), gv_p, gOr_n (by omega) (Nat.lt_trans (pow8192 hp) (by decide)), show (1 : Int) = ((1 : Nat) : Int) from rfl, gXor_n (by omega) (by decide), gv_p]
        unfold j_Ce_coded_92
        rw [ga_p (by omega)]
        refine ih t _ _ ⟨rfl, fun k' hk' => ?_⟩
        obtain rfl : k' = k + 1 := by omega
        rw [ceN.eq_2, if_neg hb]
        exact ⟨rfl, rfl⟩
    · rintro rec t a b ⟨rfl, hI2⟩
      obtain ⟨rfl, rfl⟩ := hI2 4 rfl
      have hB := B 4 (by omega)
      unfold l_Ce_coded_61
      rw [if_neg (by decide), gOr_n (by omega) (by omega)]
      rfl
    · obtain rfl : k = 0 := by omega
      exact ⟨rfl, rfl⟩
  · obtain rfl : k = 0 := by omega
    exact ⟨rfl, rfl, rfl⟩
theorem gmulbit {b p : Nat} (hb : b < 2) (hp : p < 31) : gShl ((b : Nat) : Int) (p : Int) = ((b * 2 ^ p : Nat) : Int) := by
  rcases (show b = 0 ∨ b = 1 by omega) with rfl | rfl
  · rw [Nat.zero_mul]; exact gShl0 p hp
  · rw [Nat.one_mul]; exact gShl1 p hp
theorem gmul_lt {b p : Nat} (hb : b < 2) (hp : p < 13) : b * 2 ^ p < 8192 := by
  have := pow8192 hp
  rcases (show b = 0 ∨ b = 1 by omega) with rfl | rfl <;> omega
theorem code_e {τ : gM} {v : Nat} (h : v < 256) : F_Mo_code τ (v : Int) = some (τ, ((ccN v : Nat) : Int)) := by
  obtain ⟨A, B, E, -⟩ := cN_all v h
  unfold F_Mo_code
  refine to_gl2 (lo := 0) (hi := 8) (R := fun o => o = some (τ, ((ccN v : Nat) : Int))) (fun j s a => s = τ ∧ ∀ k : Nat, j = (k : Int) → a = ((mdN v k : Nat) : Int)) ?_ ?_ 200 0 τ _ (by omega) (by omega) (by omega) ⟨rfl, fun k hk => ?_⟩
  · rintro rec j s a h1 h2 ⟨rfl, hI⟩ ih
    obtain ⟨k, rfl⟩ : ∃ k : Nat, j = (k : Int) := ⟨j.toNat, by omega⟩
    obtain rfl := hI k rfl
    have hk : k < 8 := by omega
    have hA := A k (by omega)
    have hp := plN_lt k hk
    have hb : v / 2 ^ k % 2 < 2 := Nat.mod_lt _ (by decide)
    have hm := gmul_lt hb hp
    unfold l_Mo_code_4
    rw [if_pos h2, gk_e (placeOf_e hk), gbit (by omega) (by omega), gmulbit hb (by omega), gv_p, gOr_n (by omega) (by omega), ga_p (by omega)]
    refine ih s _ ⟨rfl, fun k' hk' => ?_⟩
    obtain rfl : k' = k + 1 := by omega
    rfl
  · rintro rec s a ⟨rfl, hI⟩
    obtain rfl := hI 8 rfl
    have hA := A 8 (by omega)
    have hs := sgN_lt (mdN v 8) 12 (by omega)
    unfold l_Mo_code_4
    rw [if_neg (by decide)]
    dsimp only
    rw [gk_e (sign_e (by omega))]
    refine to_gl2 (lo := 0) (hi := 4) (R := fun o => o = some (s, ((ccN v : Nat) : Int))) (fun j t a => t = s ∧ ∀ k : Nat, j = (k : Int) → a = ((meN (mdN v 8) (sgN (mdN v 8) 12) k : Nat) : Int)) ?_ ?_ 200 0 s _ (by omega) (by omega) (by omega) ⟨rfl, fun k hk => ?_⟩
    · rintro rec j t a h1 h2 ⟨rfl, hI2⟩ ih
      obtain ⟨k, rfl⟩ : ∃ k : Nat, j = (k : Int) := ⟨j.toNat, by omega⟩
      obtain rfl := hI2 k rfl
      have hk : k < 4 := by omega
      have hB := B k (by omega)
      have hp : 2 ^ k < 13 := Nat.lt_of_le_of_lt (Nat.pow_le_pow_right (by decide) (show k ≤ 3 by omega)) (by decide)
      have hb : sgN (mdN v 8) 12 / 2 ^ k % 2 < 2 := Nat.mod_lt _ (by decide)
      have hm := gmul_lt hb hp
      unfold l_Mo_code_36
      rw [if_pos h2, gbit (by omega) (by omega), gShl1 k (by omega), gmulbit hb (by omega), gv_p, gOr_n (by omega) (by omega), ga_p (by omega)]
      refine ih t _ ⟨rfl, fun k' hk' => ?_⟩
      obtain rfl : k' = k + 1 := by omega
      rfl
    · rintro rec t a ⟨rfl, hI2⟩
      obtain rfl := hI2 4 rfl
      have hB := B 4 (by omega)
      have ho := odN_lt (meN (mdN v 8) (sgN (mdN v 8) 12) 4) 12
      unfold l_Mo_code_36
      rw [if_neg (by decide)]
      dsimp only
      rw [gk_e (odd_e (by omega)), gOr_n (by omega) (by omega), ← E]
      rfl
    · obtain rfl : k = 0 := by omega
      rfl
  · obtain rfl : k = 0 := by omega
    rfl
/-! counting ones -/
def bcN (x : Nat) : Nat :=
  let a := x - (x / 2 &&& 1431655765)
  let b := (a &&& 858993459) + (a / 4 &&& 858993459)
  let c := (b + b / 16) &&& 252645135
  let d := c + c / 256
  let e := d + d / 65536
  e &&& 63
def onN (x : Nat) : Nat → Nat
  | 0 => 0
  | k + 1 => onN x k + x / 2 ^ k % 2
theorem bc_all : ∀ a, a < 128 → ∀ b, b < 64 → onN (64 * a + b) 13 = bcN (64 * a + b) ∧ ((64 * a + b) / 2 &&& 1431655765) ≤ 64 * a + b := by decide +kernel
theorem onN_le (x : Nat) : ∀ k, onN x k ≤ k
  | 0 => Nat.le_refl 0
  | k + 1 => by
    have ih := onN_le x k
    have hb : x / 2 ^ k % 2 < 2 := Nat.mod_lt _ (by decide)
    rw [onN.eq_2]
    omega
theorem bitCount_e {σ : gM} {x : Nat} (h : x < 8192) : F_Jd_bitCount σ (x : Int) = some (σ, ((onN x 13 : Nat) : Int)) := by
  have H := bc_all (x / 64) (by omega) (x % 64) (by omega)
  rw [show 64 * (x / 64) + x % 64 = x by omega] at H
  obtain ⟨H1, H2⟩ := H
  rw [H1]
  unfold F_Jd_bitCount bcN
  have u1 : gUshr (x : Int) 1 = ((x / 2 : Nat) : Int) := gUshr_n (k := 1) (by omega) (by decide)
  have d1 : gAnd ((x / 2 : Nat) : Int) 1431655765 = ((x / 2 &&& 1431655765 : Nat) : Int) := gAnd_n (b := 1431655765) (by omega)
  rw [u1, d1, show (x : Int) - ((x / 2 &&& 1431655765 : Nat) : Int) = ((x - (x / 2 &&& 1431655765) : Nat) : Int) by omega, ga_p (by omega)]
  have l1 : x - (x / 2 &&& 1431655765) < 8192 := by omega
  generalize x - (x / 2 &&& 1431655765) = a at l1 ⊢
  dsimp only
  have u2 : gUshr (a : Int) 2 = ((a / 4 : Nat) : Int) := gUshr_n (k := 2) (by omega) (by decide)
  have d2 : gAnd (a : Int) 858993459 = ((a &&& 858993459 : Nat) : Int) := gAnd_n (b := 858993459) (by omega)
  have d3 : gAnd ((a / 4 : Nat) : Int) 858993459 = ((a / 4 &&& 858993459 : Nat) : Int) := gAnd_n (b := 858993459) (by omega)
  have m2 : a &&& 858993459 ≤ a := Nat.and_le_left
  have m3 : a / 4 &&& 858993459 ≤ a / 4 := Nat.and_le_left
  rw [u2, d2, d3, show ((a &&& 858993459 : Nat) : Int) + ((a / 4 &&& 858993459 : Nat) : Int) = (((a &&& 858993459) + (a / 4 &&& 858993459) : Nat) : Int) by omega, ga_p (by omega)]
  have l2 : (a &&& 858993459) + (a / 4 &&& 858993459) < 20000 := by omega
  generalize (a &&& 858993459) + (a / 4 &&& 858993459) = b at l2 ⊢
  have u4 : gUshr (b : Int) 4 = ((b / 16 : Nat) : Int) := gUshr_n (k := 4) (by omega) (by decide)
  rw [u4, show (b : Int) + ((b / 16 : Nat) : Int) = ((b + b / 16 : Nat) : Int) by omega, ga_p (by omega)]
  have d4 : gAnd ((b + b / 16 : Nat) : Int) 252645135 = ((b + b / 16 &&& 252645135 : Nat) : Int) := gAnd_n (b := 252645135) (by omega)
  have m4 : b + b / 16 &&& 252645135 ≤ b + b / 16 := Nat.and_le_left
  rw [d4, gv_p]
  have l3 : (b + b / 16 &&& 252645135) < 40000 := by omega
  generalize (b + b / 16 &&& 252645135) = c at l3 ⊢
  have u8 : gUshr (c : Int) 8 = ((c / 256 : Nat) : Int) := gUshr_n (k := 8) (by omega) (by decide)
  rw [u8, show (c : Int) + ((c / 256 : Nat) : Int) = ((c + c / 256 : Nat) : Int) by omega, ga_p (by omega)]
  have l4 : c + c / 256 < 80000 := by omega
  generalize c + c / 256 = d at l4 ⊢
  have u16 : gUshr (d : Int) 16 = ((d / 65536 : Nat) : Int) := gUshr_n (k := 16) (by omega) (by decide)
  rw [u16, show (d : Int) + ((d / 65536 : Nat) : Int) = ((d + d / 65536 : Nat) : Int) by omega, ga_p (by omega)]
  have d5 : gAnd ((d + d / 65536 : Nat) : Int) 63 = ((d + d / 65536 &&& 63 : Nat) : Int) := gAnd_n (b := 63) (by omega)
  rw [d5]
theorem ones_e {τ : gM} {x : Nat} (h : x < 8192) : F_Mo_ones τ (x : Int) = some (τ, ((onN x 13 : Nat) : Int)) := by
  unfold F_Mo_ones
  refine to_gl2 (lo := 0) (hi := 13) (R := fun o => o = some (τ, ((onN x 13 : Nat) : Int))) (fun j s a => s = τ ∧ ∀ k : Nat, j = (k : Int) → a = ((onN x k : Nat) : Int)) ?_ ?_ 200 0 τ _ (by omega) (by omega) (by omega) ⟨rfl, fun k hk => ?_⟩
  · rintro rec j s a h1 h2 ⟨rfl, hI⟩ ih
    obtain ⟨k, rfl⟩ : ∃ k : Nat, j = (k : Int) := ⟨j.toNat, by omega⟩
    obtain rfl := hI k rfl
    have hb : x / 2 ^ k % 2 < 2 := Nat.mod_lt _ (by decide)
    have hl := onN_le x k
    unfold l_Mo_ones_4
    rw [if_pos h2, gbit (by omega) (by omega), ga_p (by omega), ga_p (by omega)]
    refine ih s _ ⟨rfl, fun k' hk' => ?_⟩
    obtain rfl : k' = k + 1 := by omega
    rw [onN.eq_2]
    omega
  · rintro rec s a ⟨rfl, hI⟩
    obtain rfl := hI 13 rfl
    unfold l_Mo_ones_4
    rw [if_neg (by decide)]
  · obtain rfl : k = 0 := by omega
    rfl
