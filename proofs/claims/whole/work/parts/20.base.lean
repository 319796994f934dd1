/-! plain rows over the functions: memory, checks, pairs of runs, loops -/
theorem gU_k {σ : gM} {k k' : Nat} {i v : Int} (h : k' ≠ k) : gU σ k i v k' = σ k' := by
  funext i'
  simp [gU, h]
theorem gU_i {σ : gM} {k : Nat} {i i' v : Int} (h : i' ≠ i) : gU σ k i v k i' = σ k i' := by simp [gU, h]
theorem gU_e {σ : gM} {k : Nat} {i v : Int} : gU σ k i v k i = v := by simp [gU]
theorem gU_at {σ : gM} {k : Nat} {i i' v : Int} : gU σ k i v k i' = if i' = i then v else σ k i' := by simp [gU]
theorem ga_p {x : Int} {f : Int → gO} (h : -2147483648 ≤ x ∧ x ≤ 2147483647) : ga x f = f x := if_pos h
theorem gal_p {x : Int} {f : Int → gO} (h : -9223372036854775808 ≤ x ∧ x ≤ 9223372036854775807) : gal x f = f x := if_pos h
theorem gi_p {i n : Int} {o : gO} (h : 0 ≤ i ∧ i < n) : gi i n o = o := if_pos h
theorem gb_p {x : Int} {o : gO} (h : 0 ≤ x ∧ x ≤ 1) : gb x o = o := if_pos h
theorem gd_p {x y : Int} {o : gO} (h : 0 ≤ x ∧ 0 < y) : gd x y o = o := if_pos h
theorem gv_p {x : Int} {f : Int → gO} : gv x f = f x := rfl
theorem gw_p {σ : gM} {k : Nat} {n i v : Int} {f : gM → gO} (h : 0 ≤ i ∧ i < n) : gw σ k n i v f = f (gU σ k i v) := if_pos h
theorem gwb_p {σ : gM} {k : Nat} {n i v : Int} {f : gM → gO} (h : (0 ≤ i ∧ i < n) ∧ (0 ≤ v ∧ v ≤ 1)) : gwb σ k n i v f = f (gU σ k i v) := if_pos h
theorem gp_p {σ : gM} {k : Nat} {j v : Int} {f : gM → gO} : gp σ k j v f = f (gU σ k j v) := rfl
theorem gpb_p {σ : gM} {k : Nat} {j v : Int} {f : gM → gO} (h : 0 ≤ v ∧ v ≤ 1) : gpb σ k j v f = f (gU σ k j v) := if_pos h
theorem gk_s {σ : gM} {r : Int} {K : gM → Int → gO} : gk (some (σ, r)) K = K σ r := rfl
theorem gk_e {o : gO} {σ : gM} {r : Int} {K : gM → Int → gO} (h : o = some (σ, r)) : gk o K = K σ r := by rw [h]; rfl
def Sim (o o' : gO) (P : gM → Int → gM → Int → Prop) : Prop := ∃ (s : gM) (r : Int) (s' : gM) (r' : Int), o = some (s, r) ∧ o' = some (s', r') ∧ P s r s' r'
theorem sim_ret {s s' : gM} {r r' : Int} {P : gM → Int → gM → Int → Prop} (h : P s r s' r') : Sim (some (s, r)) (some (s', r')) P := ⟨s, r, s', r', rfl, rfl, h⟩
theorem sim_bind {f f' : gO} {K K' : gM → Int → gO} {P Q : gM → Int → gM → Int → Prop} (h : Sim f f' P) (k : ∀ s r s' r', P s r s' r' → Sim (K s r) (K' s' r') Q) : Sim (gk f K) (gk f' K') Q := by
  obtain ⟨s, r, s', r', rfl, rfl, hp⟩ := h
  exact k s r s' r' hp
theorem sim_l {f o' : gO} {K : gM → Int → gO} {Q : gM → Int → gM → Int → Prop} {s : gM} {r : Int} (h : f = some (s, r)) (k : Sim (K s r) o' Q) : Sim (gk f K) o' Q := by
  subst h
  exact k
theorem sim_r {f o : gO} {K : gM → Int → gO} {Q : gM → Int → gM → Int → Prop} {s : gM} {r : Int} (h : f = some (s, r)) (k : Sim o (K s r) Q) : Sim o (gk f K) Q := by
  subst h
  exact k
theorem sim_mono {o o' : gO} {P Q : gM → Int → gM → Int → Prop} (h : Sim o o' P) (k : ∀ s r s' r', P s r s' r' → Q s r s' r') : Sim o o' Q := by
  obtain ⟨s, r, s', r', h1, h2, hp⟩ := h
  exact ⟨s, r, s', r', h1, h2, k _ _ _ _ hp⟩
/-- a call on both sides that is the last thing: the answers go through -/
theorem sim_gk_ret {f f' : gO} {P Q : gM → Int → gM → Int → Prop} {g g' : gM → Int → Int} (h : Sim f f' P) (k : ∀ s r s' r', P s r s' r' → Q s (g s r) s' (g' s' r')) : Sim (gk f fun s r => some (s, g s r)) (gk f' fun s r => some (s, g' s r)) Q :=
  sim_bind h fun s r s' r' hp => sim_ret (k s r s' r' hp)
theorem sim_gl1 {lo hi : Int} {body body' : (gM → Int → gO) → gM → Int → gO} {Q : gM → Int → gM → Int → Prop} (I : Int → gM → gM → Prop)
    (hstep : ∀ rec rec' j s s', lo ≤ j → j < hi → I j s s' → (∀ t t', I (j + 1) t t' → Sim (rec t (j + 1)) (rec' t' (j + 1)) Q) → Sim (body rec s j) (body' rec' s' j) Q)
    (hend : ∀ rec rec' s s', I hi s s' → Sim (body rec s hi) (body' rec' s' hi) Q) :
    ∀ (n n' : Nat) (j : Int) (s s' : gM), lo ≤ j → j ≤ hi → hi - j < n → hi - j < n' → I j s s' → Sim (gl1 body n s j) (gl1 body' n' s' j) Q
  | 0, _, j, s, s', h1, h2, h3, h4, hI => by omega
  | n + 1, 0, j, s, s', h1, h2, h3, h4, hI => by omega
  | n + 1, n' + 1, j, s, s', h1, h2, h3, h4, hI => by
    show Sim (body (gl1 body n) s j) (body' (gl1 body' n') s' j) Q
    by_cases hj : j = hi
    · subst hj; exact hend _ _ s s' hI
    · exact hstep _ _ j s s' h1 (by omega) hI fun t t' hI' => sim_gl1 I hstep hend n n' (j + 1) t t' (by omega) (by omega) (by omega) (by omega) hI'
theorem sim_gl2 {lo hi : Int} {body body' : (gM → Int → Int → gO) → gM → Int → Int → gO} {Q : gM → Int → gM → Int → Prop} (I : Int → gM → Int → gM → Int → Prop)
    (hstep : ∀ rec rec' j s a s' a', lo ≤ j → j < hi → I j s a s' a' → (∀ t b t' b', I (j + 1) t b t' b' → Sim (rec t b (j + 1)) (rec' t' b' (j + 1)) Q) → Sim (body rec s a j) (body' rec' s' a' j) Q)
    (hend : ∀ rec rec' s a s' a', I hi s a s' a' → Sim (body rec s a hi) (body' rec' s' a' hi) Q) :
    ∀ (n n' : Nat) (j : Int) (s : gM) (a : Int) (s' : gM) (a' : Int), lo ≤ j → j ≤ hi → hi - j < n → hi - j < n' → I j s a s' a' → Sim (gl2 body n s a j) (gl2 body' n' s' a' j) Q
  | 0, _, j, s, a, s', a', h1, h2, h3, h4, hI => by omega
  | n + 1, 0, j, s, a, s', a', h1, h2, h3, h4, hI => by omega
  | n + 1, n' + 1, j, s, a, s', a', h1, h2, h3, h4, hI => by
    show Sim (body (gl2 body n) s a j) (body' (gl2 body' n') s' a' j) Q
    by_cases hj : j = hi
    · subst hj; exact hend _ _ s a s' a' hI
    · exact hstep _ _ j s a s' a' h1 (by omega) hI fun t b t' b' hI' => sim_gl2 I hstep hend n n' (j + 1) t b t' b' (by omega) (by omega) (by omega) (by omega) hI'
theorem sim_gl3 {lo hi : Int} {body body' : (gM → Int → Int → Int → gO) → gM → Int → Int → Int → gO} {Q : gM → Int → gM → Int → Prop} (I : Int → gM → Int → Int → gM → Int → Int → Prop)
    (hstep : ∀ rec rec' j s a b s' a' b', lo ≤ j → j < hi → I j s a b s' a' b' → (∀ t c d t' c' d', I (j + 1) t c d t' c' d' → Sim (rec t c d (j + 1)) (rec' t' c' d' (j + 1)) Q) → Sim (body rec s a b j) (body' rec' s' a' b' j) Q)
    (hend : ∀ rec rec' s a b s' a' b', I hi s a b s' a' b' → Sim (body rec s a b hi) (body' rec' s' a' b' hi) Q) :
    ∀ (n n' : Nat) (j : Int) (s : gM) (a b : Int) (s' : gM) (a' b' : Int), lo ≤ j → j ≤ hi → hi - j < n → hi - j < n' → I j s a b s' a' b' → Sim (gl3 body n s a b j) (gl3 body' n' s' a' b' j) Q
  | 0, _, j, s, a, b, s', a', b', h1, h2, h3, h4, hI => by omega
  | n + 1, 0, j, s, a, b, s', a', b', h1, h2, h3, h4, hI => by omega
  | n + 1, n' + 1, j, s, a, b, s', a', b', h1, h2, h3, h4, hI => by
    show Sim (body (gl3 body n) s a b j) (body' (gl3 body' n') s' a' b' j) Q
    by_cases hj : j = hi
    · subst hj; exact hend _ _ s a b s' a' b' hI
    · exact hstep _ _ j s a b s' a' b' h1 (by omega) hI fun t c d t' c' d' hI' => sim_gl3 I hstep hend n n' (j + 1) t c d t' c' d' (by omega) (by omega) (by omega) (by omega) hI'
/-- one side's loop to a result -/
theorem to_gl1 {lo hi : Int} {body : (gM → Int → gO) → gM → Int → gO} {R : gO → Prop} (I : Int → gM → Prop)
    (hstep : ∀ rec j s, lo ≤ j → j < hi → I j s → (∀ t, I (j + 1) t → R (rec t (j + 1))) → R (body rec s j)) (hend : ∀ rec s, I hi s → R (body rec s hi)) :
    ∀ (n : Nat) (j : Int) (s : gM), lo ≤ j → j ≤ hi → hi - j < n → I j s → R (gl1 body n s j)
  | 0, j, s, h1, h2, h3, hI => by omega
  | n + 1, j, s, h1, h2, h3, hI => by
    show R (body (gl1 body n) s j)
    by_cases hj : j = hi
    · subst hj; exact hend _ s hI
    · exact hstep _ j s h1 (by omega) hI fun t hI' => to_gl1 I hstep hend n (j + 1) t (by omega) (by omega) (by omega) hI'
theorem to_gl2 {lo hi : Int} {body : (gM → Int → Int → gO) → gM → Int → Int → gO} {R : gO → Prop} (I : Int → gM → Int → Prop)
    (hstep : ∀ rec j s a, lo ≤ j → j < hi → I j s a → (∀ t b, I (j + 1) t b → R (rec t b (j + 1))) → R (body rec s a j)) (hend : ∀ rec s a, I hi s a → R (body rec s a hi)) :
    ∀ (n : Nat) (j : Int) (s : gM) (a : Int), lo ≤ j → j ≤ hi → hi - j < n → I j s a → R (gl2 body n s a j)
  | 0, j, s, a, h1, h2, h3, hI => by omega
  | n + 1, j, s, a, h1, h2, h3, hI => by
    show R (body (gl2 body n) s a j)
    by_cases hj : j = hi
    · subst hj; exact hend _ s a hI
    · exact hstep _ j s a h1 (by omega) hI fun t b hI' => to_gl2 I hstep hend n (j + 1) t b (by omega) (by omega) (by omega) hI'
theorem to_gl3 {lo hi : Int} {body : (gM → Int → Int → Int → gO) → gM → Int → Int → Int → gO} {R : gO → Prop} (I : Int → gM → Int → Int → Prop)
    (hstep : ∀ rec j s a b, lo ≤ j → j < hi → I j s a b → (∀ t c d, I (j + 1) t c d → R (rec t c d (j + 1))) → R (body rec s a b j)) (hend : ∀ rec s a b, I hi s a b → R (body rec s a b hi)) :
    ∀ (n : Nat) (j : Int) (s : gM) (a b : Int), lo ≤ j → j ≤ hi → hi - j < n → I j s a b → R (gl3 body n s a b j)
  | 0, j, s, a, b, h1, h2, h3, hI => by omega
  | n + 1, j, s, a, b, h1, h2, h3, hI => by
    show R (body (gl3 body n) s a b j)
    by_cases hj : j = hi
    · subst hj; exact hend _ s a b hI
    · exact hstep _ j s a b h1 (by omega) hI fun t c d hI' => to_gl3 I hstep hend n (j + 1) t c d (by omega) (by omega) (by omega) hI'
theorem to_gl4 {lo hi : Int} {body : (gM → Int → Int → Int → Int → gO) → gM → Int → Int → Int → Int → gO} {R : gO → Prop} (I : Int → gM → Int → Int → Int → Prop)
    (hstep : ∀ rec j s a b c, lo ≤ j → j < hi → I j s a b c → (∀ t d e f, I (j + 1) t d e f → R (rec t d e f (j + 1))) → R (body rec s a b c j)) (hend : ∀ rec s a b c, I hi s a b c → R (body rec s a b c hi)) :
    ∀ (n : Nat) (j : Int) (s : gM) (a b c : Int), lo ≤ j → j ≤ hi → hi - j < n → I j s a b c → R (gl4 body n s a b c j)
  | 0, j, s, a, b, c, h1, h2, h3, hI => by omega
  | n + 1, j, s, a, b, c, h1, h2, h3, hI => by
    show R (body (gl4 body n) s a b c j)
    by_cases hj : j = hi
    · subst hj; exact hend _ s a b c hI
    · exact hstep _ j s a b c h1 (by omega) hI fun t d e f hI' => to_gl4 I hstep hend n (j + 1) t d e f (by omega) (by omega) (by omega) hI'
