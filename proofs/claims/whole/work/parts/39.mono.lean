/-! the class' sum of ticks never falls -/
def Mo (T : Int) (P : Int → Prop) (o : gO) : Prop := ∀ s r, o = some (s, r) → T ≤ s 4 14 ∧ P r
theorem mo_some {T : Int} {P : Int → Prop} {s : gM} {r : Int} (h : T ≤ s 4 14) (hp : P r) : Mo T P (some (s, r)) := fun _ _ e => by cases e; exact ⟨h, hp⟩
theorem mo_none {T : Int} {P : Int → Prop} : Mo T P none := fun _ _ e => by cases e
theorem mo_ga {T x : Int} {P : Int → Prop} {f : Int → gO} (h : ∀ a, Mo T P (f a)) : Mo T P (ga x f) := by
  unfold ga; split
  · exact h _
  · exact mo_none
theorem mo_gi {T i n : Int} {P : Int → Prop} {o : gO} (h : Mo T P o) : Mo T P (gi i n o) := by
  unfold gi; split
  · exact h
  · exact mo_none
theorem mo_gb {T x : Int} {P : Int → Prop} {o : gO} (h : Mo T P o) : Mo T P (gb x o) := by
  unfold gb; split
  · exact h
  · exact mo_none
theorem mo_gd {T x y : Int} {P : Int → Prop} {o : gO} (h : Mo T P o) : Mo T P (gd x y o) := by
  unfold gd; split
  · exact h
  · exact mo_none
theorem mo_gv {T x : Int} {P : Int → Prop} {f : Int → gO} (h : ∀ a, Mo T P (f a)) : Mo T P (gv x f) := h x
theorem mo_gw {T n i v : Int} {P : Int → Prop} {σ : gM} {k : Nat} {f : gM → gO} (h : T ≤ σ 4 14) (hk : 4 ≠ k) (hf : ∀ s, T ≤ s 4 14 → Mo T P (f s)) : Mo T P (gw σ k n i v f) := by
  unfold gw; split
  · exact hf _ (by rw [gU_k hk]; exact h)
  · exact mo_none
theorem mo_gwb {T n i v : Int} {P : Int → Prop} {σ : gM} {k : Nat} {f : gM → gO} (h : T ≤ σ 4 14) (hk : 4 ≠ k) (hf : ∀ s, T ≤ s 4 14 → Mo T P (f s)) : Mo T P (gwb σ k n i v f) := by
  unfold gwb; split
  · exact hf _ (by rw [gU_k hk]; exact h)
  · exact mo_none
theorem mo_gp {T j v : Int} {P : Int → Prop} {σ : gM} {k : Nat} {f : gM → gO} (h : T ≤ σ 4 14) (hk : 4 ≠ k) (hf : ∀ s, T ≤ s 4 14 → Mo T P (f s)) : Mo T P (gp σ k j v f) := hf _ (by rw [gU_k hk]; exact h)
theorem mo_gpb {T j v : Int} {P : Int → Prop} {σ : gM} {k : Nat} {f : gM → gO} (h : T ≤ σ 4 14) (hk : 4 ≠ k) (hf : ∀ s, T ≤ s 4 14 → Mo T P (f s)) : Mo T P (gpb σ k j v f) := by
  unfold gpb; split
  · exact hf _ (by rw [gU_k hk]; exact h)
  · exact mo_none
theorem mo_gk {T : Int} {P P1 : Int → Prop} {o : gO} {K : gM → Int → gO} (h : Mo T P1 o) (hk : ∀ s r, T ≤ s 4 14 → P1 r → Mo T P (K s r)) : Mo T P (gk o K) := by
  intro s r e
  cases ho : o with
  | none => rw [ho] at e; cases e
  | some q =>
    obtain ⟨s1, r1⟩ := q
    rw [ho] at e
    have := h s1 r1 ho
    exact hk s1 r1 this.1 this.2 s r e
theorem mo_ite {T : Int} {P : Int → Prop} {c : Prop} [Decidable c] {a b : gO} (h1 : Mo T P a) (h2 : Mo T P b) : Mo T P (if c then a else b) := by
  split
  · exact h1
  · exact h2
theorem mo_gl1 {T : Int} {P : Int → Prop} {body : (gM → Int → gO) → gM → Int → gO} (h : ∀ rec : gM → Int → gO, (∀ s a, T ≤ s 4 14 → Mo T P (rec s a)) → ∀ s a, T ≤ s 4 14 → Mo T P (body rec s a)) : ∀ (n : Nat) {s : gM} {a : Int}, T ≤ s 4 14 → Mo T P (gl1 body n s a)
  | 0, _, _, _ => mo_none
  | n + 1, s, a, hs => h _ (fun s a hs => mo_gl1 h n hs) s a hs
theorem mo_gl2 {T : Int} {P : Int → Prop} {body : (gM → Int → Int → gO) → gM → Int → Int → gO} (h : ∀ rec : gM → Int → Int → gO, (∀ s a b, T ≤ s 4 14 → Mo T P (rec s a b)) → ∀ s a b, T ≤ s 4 14 → Mo T P (body rec s a b)) : ∀ (n : Nat) {s : gM} {a b : Int}, T ≤ s 4 14 → Mo T P (gl2 body n s a b)
  | 0, _, _, _, _ => mo_none
  | n + 1, s, a, b, hs => h _ (fun s a b hs => mo_gl2 h n hs) s a b hs
theorem mo_gl3 {T : Int} {P : Int → Prop} {body : (gM → Int → Int → Int → gO) → gM → Int → Int → Int → gO} (h : ∀ rec : gM → Int → Int → Int → gO, (∀ s a b c, T ≤ s 4 14 → Mo T P (rec s a b c)) → ∀ s a b c, T ≤ s 4 14 → Mo T P (body rec s a b c)) : ∀ (n : Nat) {s : gM} {a b c : Int}, T ≤ s 4 14 → Mo T P (gl3 body n s a b c)
  | 0, _, _, _, _, _ => mo_none
  | n + 1, s, a, b, c, hs => h _ (fun s a b c hs => mo_gl3 h n hs) s a b c hs
theorem mo_gl4 {T : Int} {P : Int → Prop} {body : (gM → Int → Int → Int → Int → gO) → gM → Int → Int → Int → Int → gO} (h : ∀ rec : gM → Int → Int → Int → Int → gO, (∀ s a b c d, T ≤ s 4 14 → Mo T P (rec s a b c d)) → ∀ s a b c d, T ≤ s 4 14 → Mo T P (body rec s a b c d)) : ∀ (n : Nat) {s : gM} {a b c d : Int}, T ≤ s 4 14 → Mo T P (gl4 body n s a b c d)
  | 0, _, _, _, _, _, _ => mo_none
  | n + 1, s, a, b, c, d, hs => h _ (fun s a b c d hs => mo_gl4 h n hs) s a b c d hs
theorem mo_Le_add {T c n : Int} {σ : gM} (h : T ≤ σ 4 14) (hc : c ≠ 14 ∨ 0 ≤ n) : Mo T (fun _ => True) (F_Le_add σ c n) := by
  unfold F_Le_add
  refine mo_gi ?_
  intro s r e
  unfold ga at e
  split at e
  · unfold gw at e
    split at e
    · cases e
      refine ⟨?_, trivial⟩
      rw [gU_at]
      split
      · rename_i z
        rw [← z]
        rcases hc with w | w
        · exact absurd z.symm w
        · omega
      · exact h
    · cases e
  · cases e
theorem mo_Le_spend {T c n : Int} {σ : gM} (h : T ≤ σ 4 14) (hn : 0 ≤ n) : Mo T (fun _ => True) (F_Le_spend σ c n) := by
  have key : ∀ d, Mo T (fun _ => True) (j_Le_spend_17_3 σ n d) := by
    intro d
    unfold j_Le_spend_17_3
    refine mo_gi (mo_ga fun a => mo_gw h (by decide) fun s hs => mo_gi ?_)
    intro t r e
    unfold ga at e
    split at e
    · unfold gw at e
      split at e
      · cases e
        refine ⟨?_, trivial⟩
        rw [gU_e]; omega
      · cases e
    · cases e
  unfold F_Le_spend
  exact mo_ite (key _) (key _)
set_option maxRecDepth 8000 in
theorem mo_Ca_leavePlay {T : Int} {σ : gM} {v1 : Int} (h : T ≤ σ 4 14) : Mo T (fun _ => True) (F_Ca_leavePlay σ v1) := by
  unfold F_Ca_leavePlay
  repeat' first
    | with_reducible exact mo_some (by assumption) (by first | trivial | assumption | decide)
    | with_reducible refine mo_ite ?_ ?_
    | with_reducible refine mo_ga fun _ => ?_
    | with_reducible refine mo_gi ?_
    | with_reducible refine mo_gd ?_
    | with_reducible refine mo_gb ?_
    | with_reducible refine mo_gv fun _ => ?_
    | with_reducible refine mo_gw (by assumption) (by decide) fun _ _ => ?_
    | with_reducible refine mo_gwb (by assumption) (by decide) fun _ _ => ?_
    | with_reducible refine mo_gp (by assumption) (by decide) fun _ _ => ?_
    | with_reducible refine mo_gpb (by assumption) (by decide) fun _ _ => ?_
    | with_reducible refine mo_gl2 (fun rec hr s a b hs => ?_) _ (by assumption)
    | (with_reducible apply_assumption; assumption)
    | unfold j_Ca_leavePlay_57
    | unfold j_Ca_leavePlay_54
    | unfold l_Ca_leavePlay_5
set_option maxRecDepth 8000 in
theorem mo_Ca_joinPlay {T : Int} {σ : gM} {v1 v2 : Int} (h : T ≤ σ 4 14) : Mo T (fun _ => True) (F_Ca_joinPlay σ v1 v2) := by
  unfold F_Ca_joinPlay
  repeat' first
    | with_reducible exact mo_some (by assumption) (by first | trivial | assumption | decide)
    | with_reducible refine mo_ite ?_ ?_
    | with_reducible refine mo_ga fun _ => ?_
    | with_reducible refine mo_gi ?_
    | with_reducible refine mo_gd ?_
    | with_reducible refine mo_gb ?_
    | with_reducible refine mo_gv fun _ => ?_
    | with_reducible refine mo_gw (by assumption) (by decide) fun _ _ => ?_
    | with_reducible refine mo_gwb (by assumption) (by decide) fun _ _ => ?_
    | with_reducible refine mo_gp (by assumption) (by decide) fun _ _ => ?_
    | with_reducible refine mo_gpb (by assumption) (by decide) fun _ _ => ?_
    | with_reducible refine mo_gk (mo_Ca_leavePlay (by assumption)) fun _ _ _ _ => ?_
    | with_reducible exact mo_Ca_leavePlay (by assumption)
    | (with_reducible apply_assumption; assumption)
    | unfold j_Ca_joinPlay_23
set_option maxRecDepth 8000 in
theorem mo_Ca_twinOf {T : Int} {σ : gM} {v0 : Int} (h : T ≤ σ 4 14) : Mo T (fun _ => True) (F_Ca_twinOf σ v0) := by
  unfold F_Ca_twinOf
  repeat' first
    | with_reducible exact mo_some (by assumption) (by first | trivial | assumption | decide)
    | with_reducible refine mo_ite ?_ ?_
    | with_reducible refine mo_ga fun _ => ?_
    | with_reducible refine mo_gi ?_
    | with_reducible refine mo_gd ?_
    | with_reducible refine mo_gb ?_
    | with_reducible refine mo_gv fun _ => ?_
    | with_reducible refine mo_gw (by assumption) (by decide) fun _ _ => ?_
    | with_reducible refine mo_gwb (by assumption) (by decide) fun _ _ => ?_
    | with_reducible refine mo_gp (by assumption) (by decide) fun _ _ => ?_
    | with_reducible refine mo_gpb (by assumption) (by decide) fun _ _ => ?_
    | (with_reducible apply_assumption; assumption)
    | unfold j_Ca_twinOf_17
set_option maxRecDepth 8000 in
theorem mo_Ca_causeOf {T : Int} {σ : gM} {v1 : Int} (h : T ≤ σ 4 14) : Mo T (fun _ => True) (F_Ca_causeOf σ v1) := by
  unfold F_Ca_causeOf
  repeat' first
    | with_reducible exact mo_some (by assumption) (by first | trivial | assumption | decide)
    | with_reducible refine mo_ite ?_ ?_
    | with_reducible refine mo_ga fun _ => ?_
    | with_reducible refine mo_gi ?_
    | with_reducible refine mo_gd ?_
    | with_reducible refine mo_gb ?_
    | with_reducible refine mo_gv fun _ => ?_
    | with_reducible refine mo_gw (by assumption) (by decide) fun _ _ => ?_
    | with_reducible refine mo_gwb (by assumption) (by decide) fun _ _ => ?_
    | with_reducible refine mo_gp (by assumption) (by decide) fun _ _ => ?_
    | with_reducible refine mo_gpb (by assumption) (by decide) fun _ _ => ?_
    | (with_reducible apply_assumption; assumption)
    | unfold j_Ca_causeOf_36
set_option maxRecDepth 8000 in
theorem mo_Ca_goesAhead {T : Int} {σ : gM} {v1 v2 : Int} (h : T ≤ σ 4 14) : Mo T (fun _ => True) (F_Ca_goesAhead σ v1 v2) := by
  unfold F_Ca_goesAhead
  repeat' first
    | with_reducible exact mo_some (by assumption) (by first | trivial | assumption | decide)
    | with_reducible refine mo_ite ?_ ?_
    | with_reducible refine mo_ga fun _ => ?_
    | with_reducible refine mo_gi ?_
    | with_reducible refine mo_gd ?_
    | with_reducible refine mo_gb ?_
    | with_reducible refine mo_gv fun _ => ?_
    | with_reducible refine mo_gw (by assumption) (by decide) fun _ _ => ?_
    | with_reducible refine mo_gwb (by assumption) (by decide) fun _ _ => ?_
    | with_reducible refine mo_gp (by assumption) (by decide) fun _ _ => ?_
    | with_reducible refine mo_gpb (by assumption) (by decide) fun _ _ => ?_
    | (with_reducible apply_assumption; assumption)
    | unfold j_Ca_goesAhead_71
    | unfold j_Ca_goesAhead_60
    | unfold j_Ca_goesAhead_29
set_option maxRecDepth 8000 in
theorem mo_Ca_leavingFor {T : Int} {σ : gM} {v1 : Int} (h : T ≤ σ 4 14) : Mo T (fun _ => True) (F_Ca_leavingFor σ v1) := by
  unfold F_Ca_leavingFor
  repeat' first
    | with_reducible exact mo_some (by assumption) (by first | trivial | assumption | decide)
    | with_reducible refine mo_ite ?_ ?_
    | with_reducible refine mo_ga fun _ => ?_
    | with_reducible refine mo_gi ?_
    | with_reducible refine mo_gd ?_
    | with_reducible refine mo_gb ?_
    | with_reducible refine mo_gv fun _ => ?_
    | with_reducible refine mo_gw (by assumption) (by decide) fun _ _ => ?_
    | with_reducible refine mo_gwb (by assumption) (by decide) fun _ _ => ?_
    | with_reducible refine mo_gp (by assumption) (by decide) fun _ _ => ?_
    | with_reducible refine mo_gpb (by assumption) (by decide) fun _ _ => ?_
    | with_reducible refine mo_gk (mo_Ca_goesAhead (by assumption)) fun _ _ _ _ => ?_
    | with_reducible exact mo_Ca_goesAhead (by assumption)
    | with_reducible refine mo_gl3 (fun rec hr s a b c hs => ?_) _ (by assumption)
    | (with_reducible apply_assumption; assumption)
    | unfold j_Ca_leavingFor_85
    | unfold j_Ca_leavingFor_81
    | unfold l_Ca_leavingFor_24
    | unfold j_Ca_leavingFor_107
set_option maxRecDepth 8000 in
theorem mo_Ce_openFor {T : Int} {σ : gM} {v1 : Int} (h : T ≤ σ 4 14) : Mo T (fun r => 0 ≤ r) (F_Ce_openFor σ v1) := by
  unfold F_Ce_openFor
  repeat' first
    | with_reducible exact mo_some (by assumption) (by first | trivial | assumption | decide)
    | with_reducible refine mo_ite ?_ ?_
    | with_reducible refine mo_ga fun _ => ?_
    | with_reducible refine mo_gi ?_
    | with_reducible refine mo_gd ?_
    | with_reducible refine mo_gb ?_
    | with_reducible refine mo_gv fun _ => ?_
    | with_reducible refine mo_gw (by assumption) (by decide) fun _ _ => ?_
    | with_reducible refine mo_gwb (by assumption) (by decide) fun _ _ => ?_
    | with_reducible refine mo_gp (by assumption) (by decide) fun _ _ => ?_
    | with_reducible refine mo_gpb (by assumption) (by decide) fun _ _ => ?_
    | with_reducible refine mo_gl1 (fun rec hr s a hs => ?_) _ (by assumption)
    | (with_reducible apply_assumption; assumption)
    | unfold j_Ce_openFor_138
    | unfold l_Ce_openFor_57
    | unfold j_Ce_openFor_36
set_option maxRecDepth 8000 in
theorem mo_Ce_righted {T : Int} {σ : gM} {v0 : Int} (h : T ≤ σ 4 14) : Mo T (fun _ => True) (F_Ce_righted σ v0) := by
  unfold F_Ce_righted
  repeat' first
    | with_reducible exact mo_some (by assumption) (by first | trivial | assumption | decide)
    | with_reducible refine mo_ite ?_ ?_
    | with_reducible refine mo_ga fun _ => ?_
    | with_reducible refine mo_gi ?_
    | with_reducible refine mo_gd ?_
    | with_reducible refine mo_gb ?_
    | with_reducible refine mo_gv fun _ => ?_
    | with_reducible refine mo_gw (by assumption) (by decide) fun _ _ => ?_
    | with_reducible refine mo_gwb (by assumption) (by decide) fun _ _ => ?_
    | with_reducible refine mo_gp (by assumption) (by decide) fun _ _ => ?_
    | with_reducible refine mo_gpb (by assumption) (by decide) fun _ _ => ?_
    | with_reducible refine mo_gl3 (fun rec hr s a b c hs => ?_) _ (by assumption)
    | (with_reducible apply_assumption; assumption)
    | unfold j_Ce_righted_33
    | unfold l_Ce_righted_8
    | unfold j_Ce_righted_70
    | unfold j_Ce_righted_53
set_option maxRecDepth 8000 in
theorem mo_Ce_valueOf {T : Int} {σ : gM} {v0 : Int} (h : T ≤ σ 4 14) : Mo T (fun _ => True) (F_Ce_valueOf σ v0) := by
  unfold F_Ce_valueOf
  repeat' first
    | with_reducible exact mo_some (by assumption) (by first | trivial | assumption | decide)
    | with_reducible refine mo_ite ?_ ?_
    | with_reducible refine mo_ga fun _ => ?_
    | with_reducible refine mo_gi ?_
    | with_reducible refine mo_gd ?_
    | with_reducible refine mo_gb ?_
    | with_reducible refine mo_gv fun _ => ?_
    | with_reducible refine mo_gw (by assumption) (by decide) fun _ _ => ?_
    | with_reducible refine mo_gwb (by assumption) (by decide) fun _ _ => ?_
    | with_reducible refine mo_gp (by assumption) (by decide) fun _ _ => ?_
    | with_reducible refine mo_gpb (by assumption) (by decide) fun _ _ => ?_
    | (with_reducible apply_assumption; assumption)
set_option maxRecDepth 8000 in
theorem mo_Ce_read {T : Int} {σ : gM} {v1 : Int} (h : T ≤ σ 4 14) : Mo T (fun _ => True) (F_Ce_read σ v1) := by
  unfold F_Ce_read
  repeat' first
    | with_reducible exact mo_some (by assumption) (by first | trivial | assumption | decide)
    | with_reducible refine mo_ite ?_ ?_
    | with_reducible refine mo_ga fun _ => ?_
    | with_reducible refine mo_gi ?_
    | with_reducible refine mo_gd ?_
    | with_reducible refine mo_gb ?_
    | with_reducible refine mo_gv fun _ => ?_
    | with_reducible refine mo_gw (by assumption) (by decide) fun _ _ => ?_
    | with_reducible refine mo_gwb (by assumption) (by decide) fun _ _ => ?_
    | with_reducible refine mo_gp (by assumption) (by decide) fun _ _ => ?_
    | with_reducible refine mo_gpb (by assumption) (by decide) fun _ _ => ?_
    | with_reducible refine mo_gk (mo_Ce_righted (by assumption)) fun _ _ _ _ => ?_
    | with_reducible exact mo_Ce_righted (by assumption)
    | with_reducible refine mo_gk (mo_Le_add (by assumption) (by first | exact Or.inr (by decide) | exact Or.inl (by decide))) fun _ _ _ _ => ?_
    | with_reducible exact mo_Le_add (by assumption) (by first | exact Or.inr (by decide) | exact Or.inl (by decide))
    | with_reducible refine mo_gk (mo_Ce_valueOf (by assumption)) fun _ _ _ _ => ?_
    | with_reducible exact mo_Ce_valueOf (by assumption)
    | (with_reducible apply_assumption; assumption)
    | unfold j_Ce_read_46
set_option maxRecDepth 8000 in
theorem mo_Ce_coded {T : Int} {σ : gM} {v0 : Int} (h : T ≤ σ 4 14) : Mo T (fun _ => True) (F_Ce_coded σ v0) := by
  unfold F_Ce_coded
  repeat' first
    | with_reducible exact mo_some (by assumption) (by first | trivial | assumption | decide)
    | with_reducible refine mo_ite ?_ ?_
    | with_reducible refine mo_ga fun _ => ?_
    | with_reducible refine mo_gi ?_
    | with_reducible refine mo_gd ?_
    | with_reducible refine mo_gb ?_
    | with_reducible refine mo_gv fun _ => ?_
    | with_reducible refine mo_gw (by assumption) (by decide) fun _ _ => ?_
    | with_reducible refine mo_gwb (by assumption) (by decide) fun _ _ => ?_
    | with_reducible refine mo_gp (by assumption) (by decide) fun _ _ => ?_
    | with_reducible refine mo_gpb (by assumption) (by decide) fun _ _ => ?_
    | with_reducible refine mo_gl3 (fun rec hr s a b c hs => ?_) _ (by assumption)
    | with_reducible refine mo_gl4 (fun rec hr s a b c d hs => ?_) _ (by assumption)
    | (with_reducible apply_assumption; assumption)
    | unfold j_Ce_coded_52
    | unfold l_Ce_coded_9
    | unfold j_Ce_coded_92
    | unfold l_Ce_coded_61
set_option maxRecDepth 8000 in
theorem mo_Ca_store {T : Int} {σ : gM} {v1 v2 : Int} (h : T ≤ σ 4 14) : Mo T (fun _ => True) (F_Ca_store σ v1 v2) := by
  unfold F_Ca_store
  repeat' first
    | with_reducible exact mo_some (by assumption) (by first | trivial | assumption | decide)
    | with_reducible refine mo_ite ?_ ?_
    | with_reducible refine mo_ga fun _ => ?_
    | with_reducible refine mo_gi ?_
    | with_reducible refine mo_gd ?_
    | with_reducible refine mo_gb ?_
    | with_reducible refine mo_gv fun _ => ?_
    | with_reducible refine mo_gw (by assumption) (by decide) fun _ _ => ?_
    | with_reducible refine mo_gwb (by assumption) (by decide) fun _ _ => ?_
    | with_reducible refine mo_gp (by assumption) (by decide) fun _ _ => ?_
    | with_reducible refine mo_gpb (by assumption) (by decide) fun _ _ => ?_
    | with_reducible refine mo_gk (mo_Ce_openFor (by assumption)) fun _ _ _ _ => ?_
    | with_reducible exact mo_Ce_openFor (by assumption)
    | with_reducible refine mo_gk (mo_Le_spend (by assumption) (by first | decide | assumption)) fun _ _ _ _ => ?_
    | with_reducible exact mo_Le_spend (by assumption) (by first | decide | assumption)
    | with_reducible refine mo_gk (mo_Ce_coded (by assumption)) fun _ _ _ _ => ?_
    | with_reducible exact mo_Ce_coded (by assumption)
    | with_reducible refine mo_gl1 (fun rec hr s a hs => ?_) _ (by assumption)
    | (with_reducible apply_assumption; assumption)
    | unfold j_Ca_store_86
    | unfold l_Ca_store_38
    | unfold j_Ca_store_35
set_option maxRecDepth 8000 in
theorem mo_Ca_miss {T : Int} {σ : gM} {v1 : Int} (h : T ≤ σ 4 14) : Mo T (fun _ => True) (F_Ca_miss σ v1) := by
  unfold F_Ca_miss
  repeat' first
    | with_reducible exact mo_some (by assumption) (by first | trivial | assumption | decide)
    | with_reducible refine mo_ite ?_ ?_
    | with_reducible refine mo_ga fun _ => ?_
    | with_reducible refine mo_gi ?_
    | with_reducible refine mo_gd ?_
    | with_reducible refine mo_gb ?_
    | with_reducible refine mo_gv fun _ => ?_
    | with_reducible refine mo_gw (by assumption) (by decide) fun _ _ => ?_
    | with_reducible refine mo_gwb (by assumption) (by decide) fun _ _ => ?_
    | with_reducible refine mo_gp (by assumption) (by decide) fun _ _ => ?_
    | with_reducible refine mo_gpb (by assumption) (by decide) fun _ _ => ?_
    | with_reducible refine mo_gk (mo_Ca_twinOf (by assumption)) fun _ _ _ _ => ?_
    | with_reducible exact mo_Ca_twinOf (by assumption)
    | with_reducible refine mo_gk (mo_Ca_causeOf (by assumption)) fun _ _ _ _ => ?_
    | with_reducible exact mo_Ca_causeOf (by assumption)
    | with_reducible refine mo_gk (mo_Le_add (by assumption) (by first | exact Or.inr (by decide) | exact Or.inl (by decide))) fun _ _ _ _ => ?_
    | with_reducible exact mo_Le_add (by assumption) (by first | exact Or.inr (by decide) | exact Or.inl (by decide))
    | with_reducible refine mo_gk (mo_Ca_store (by assumption)) fun _ _ _ _ => ?_
    | with_reducible exact mo_Ca_store (by assumption)
    | with_reducible refine mo_gk (mo_Ce_read (by assumption)) fun _ _ _ _ => ?_
    | with_reducible exact mo_Ce_read (by assumption)
    | with_reducible refine mo_gk (mo_Ce_openFor (by assumption)) fun _ _ _ _ => ?_
    | with_reducible exact mo_Ce_openFor (by assumption)
    | with_reducible refine mo_gk (mo_Le_spend (by assumption) (by first | decide | assumption)) fun _ _ _ _ => ?_
    | with_reducible exact mo_Le_spend (by assumption) (by first | decide | assumption)
    | with_reducible refine mo_gk (mo_Ca_leavingFor (by assumption)) fun _ _ _ _ => ?_
    | with_reducible exact mo_Ca_leavingFor (by assumption)
    | with_reducible refine mo_gl1 (fun rec hr s a hs => ?_) _ (by assumption)
    | (with_reducible apply_assumption; assumption)
    | unfold l_Ca_miss_123
    | unfold j_Ca_miss_94
    | unfold j_Ca_miss_86
    | unfold j_Ca_miss_53
set_option maxRecDepth 8000 in
theorem mo_Ca_ask {T : Int} {σ : gM} {v1 v2 : Int} (h : T ≤ σ 4 14) : Mo T (fun _ => True) (F_Ca_ask σ v1 v2) := by
  unfold F_Ca_ask
  repeat' first
    | with_reducible exact mo_some (by assumption) (by first | trivial | assumption | decide)
    | with_reducible refine mo_ite ?_ ?_
    | with_reducible refine mo_ga fun _ => ?_
    | with_reducible refine mo_gi ?_
    | with_reducible refine mo_gd ?_
    | with_reducible refine mo_gb ?_
    | with_reducible refine mo_gv fun _ => ?_
    | with_reducible refine mo_gw (by assumption) (by decide) fun _ _ => ?_
    | with_reducible refine mo_gwb (by assumption) (by decide) fun _ _ => ?_
    | with_reducible refine mo_gp (by assumption) (by decide) fun _ _ => ?_
    | with_reducible refine mo_gpb (by assumption) (by decide) fun _ _ => ?_
    | with_reducible refine mo_gk (mo_Le_add (by assumption) (by first | exact Or.inr (by decide) | exact Or.inl (by decide))) fun _ _ _ _ => ?_
    | with_reducible exact mo_Le_add (by assumption) (by first | exact Or.inr (by decide) | exact Or.inl (by decide))
    | with_reducible refine mo_gk (mo_Ca_miss (by assumption)) fun _ _ _ _ => ?_
    | with_reducible exact mo_Ca_miss (by assumption)
    | with_reducible refine mo_gk (mo_Le_spend (by assumption) (by first | decide | assumption)) fun _ _ _ _ => ?_
    | with_reducible exact mo_Le_spend (by assumption) (by first | decide | assumption)
    | with_reducible refine mo_gk (mo_Ca_joinPlay (by assumption)) fun _ _ _ _ => ?_
    | with_reducible exact mo_Ca_joinPlay (by assumption)
    | (with_reducible apply_assumption; assumption)
    | unfold j_Ca_ask_57
    | unfold j_Ca_ask_33
set_option maxRecDepth 8000 in
theorem mo_Ca_change {T : Int} {σ : gM} {v1 v2 v3 : Int} (h : T ≤ σ 4 14) : Mo T (fun _ => True) (F_Ca_change σ v1 v2 v3) := by
  unfold F_Ca_change
  repeat' first
    | with_reducible exact mo_some (by assumption) (by first | trivial | assumption | decide)
    | with_reducible refine mo_ite ?_ ?_
    | with_reducible refine mo_ga fun _ => ?_
    | with_reducible refine mo_gi ?_
    | with_reducible refine mo_gd ?_
    | with_reducible refine mo_gb ?_
    | with_reducible refine mo_gv fun _ => ?_
    | with_reducible refine mo_gw (by assumption) (by decide) fun _ _ => ?_
    | with_reducible refine mo_gwb (by assumption) (by decide) fun _ _ => ?_
    | with_reducible refine mo_gp (by assumption) (by decide) fun _ _ => ?_
    | with_reducible refine mo_gpb (by assumption) (by decide) fun _ _ => ?_
    | with_reducible refine mo_gk (mo_Ca_ask (by assumption)) fun _ _ _ _ => ?_
    | with_reducible exact mo_Ca_ask (by assumption)
    | with_reducible refine mo_gk (mo_Ca_twinOf (by assumption)) fun _ _ _ _ => ?_
    | with_reducible exact mo_Ca_twinOf (by assumption)
    | with_reducible refine mo_gk (mo_Ce_openFor (by assumption)) fun _ _ _ _ => ?_
    | with_reducible exact mo_Ce_openFor (by assumption)
    | with_reducible refine mo_gk (mo_Le_spend (by assumption) (by first | decide | assumption)) fun _ _ _ _ => ?_
    | with_reducible exact mo_Le_spend (by assumption) (by first | decide | assumption)
    | with_reducible refine mo_gk (mo_Ce_coded (by assumption)) fun _ _ _ _ => ?_
    | with_reducible exact mo_Ce_coded (by assumption)
    | (with_reducible apply_assumption; assumption)
    | unfold j_Ca_change_55
set_option maxRecDepth 8000 in
theorem mo_Ca_dismiss {T : Int} {σ : gM} {v1 v2 v3 : Int} (h : T ≤ σ 4 14) : Mo T (fun _ => True) (F_Ca_dismiss σ v1 v2 v3) := by
  unfold F_Ca_dismiss
  repeat' first
    | with_reducible exact mo_some (by assumption) (by first | trivial | assumption | decide)
    | with_reducible refine mo_ite ?_ ?_
    | with_reducible refine mo_ga fun _ => ?_
    | with_reducible refine mo_gi ?_
    | with_reducible refine mo_gd ?_
    | with_reducible refine mo_gb ?_
    | with_reducible refine mo_gv fun _ => ?_
    | with_reducible refine mo_gw (by assumption) (by decide) fun _ _ => ?_
    | with_reducible refine mo_gwb (by assumption) (by decide) fun _ _ => ?_
    | with_reducible refine mo_gp (by assumption) (by decide) fun _ _ => ?_
    | with_reducible refine mo_gpb (by assumption) (by decide) fun _ _ => ?_
    | with_reducible refine mo_gk (mo_Ca_store (by assumption)) fun _ _ _ _ => ?_
    | with_reducible exact mo_Ca_store (by assumption)
    | with_reducible refine mo_gl1 (fun rec hr s a hs => ?_) _ (by assumption)
    | (with_reducible apply_assumption; assumption)
    | unfold j_Ca_dismiss_93
    | unfold j_Ca_dismiss_48
    | unfold l_Ca_dismiss_12
    | unfold l_Ca_dismiss_3
set_option maxRecDepth 8000 in
theorem mo_Ca_reshape {T : Int} {σ : gM} {v1 v2 : Int} (h : T ≤ σ 4 14) : Mo T (fun _ => True) (F_Ca_reshape σ v1 v2) := by
  unfold F_Ca_reshape
  repeat' first
    | with_reducible exact mo_some (by assumption) (by first | trivial | assumption | decide)
    | with_reducible refine mo_ite ?_ ?_
    | with_reducible refine mo_ga fun _ => ?_
    | with_reducible refine mo_gi ?_
    | with_reducible refine mo_gd ?_
    | with_reducible refine mo_gb ?_
    | with_reducible refine mo_gv fun _ => ?_
    | with_reducible refine mo_gw (by assumption) (by decide) fun _ _ => ?_
    | with_reducible refine mo_gwb (by assumption) (by decide) fun _ _ => ?_
    | with_reducible refine mo_gp (by assumption) (by decide) fun _ _ => ?_
    | with_reducible refine mo_gpb (by assumption) (by decide) fun _ _ => ?_
    | with_reducible refine mo_gk (mo_Ca_dismiss (by assumption)) fun _ _ _ _ => ?_
    | with_reducible exact mo_Ca_dismiss (by assumption)
    | (with_reducible apply_assumption; assumption)
set_option maxRecDepth 8000 in
theorem mo_Ce_outcome {T : Int} {σ : gM} {v0 : Int} (h : T ≤ σ 4 14) : Mo T (fun _ => True) (F_Ce_outcome σ v0) := by
  unfold F_Ce_outcome
  repeat' first
    | with_reducible exact mo_some (by assumption) (by first | trivial | assumption | decide)
    | with_reducible refine mo_ite ?_ ?_
    | with_reducible refine mo_ga fun _ => ?_
    | with_reducible refine mo_gi ?_
    | with_reducible refine mo_gd ?_
    | with_reducible refine mo_gb ?_
    | with_reducible refine mo_gv fun _ => ?_
    | with_reducible refine mo_gw (by assumption) (by decide) fun _ _ => ?_
    | with_reducible refine mo_gwb (by assumption) (by decide) fun _ _ => ?_
    | with_reducible refine mo_gp (by assumption) (by decide) fun _ _ => ?_
    | with_reducible refine mo_gpb (by assumption) (by decide) fun _ _ => ?_
    | with_reducible refine mo_gk (mo_Ce_righted (by assumption)) fun _ _ _ _ => ?_
    | with_reducible exact mo_Ce_righted (by assumption)
    | with_reducible refine mo_gk (mo_Ce_valueOf (by assumption)) fun _ _ _ _ => ?_
    | with_reducible exact mo_Ce_valueOf (by assumption)
    | (with_reducible apply_assumption; assumption)
    | unfold j_Ce_outcome_25
set_option maxRecDepth 8000 in
theorem mo_He_has {T : Int} {σ : gM} {v1 : Int} (h : T ≤ σ 4 14) : Mo T (fun _ => True) (F_He_has σ v1) := by
  unfold F_He_has
  repeat' first
    | with_reducible exact mo_some (by assumption) (by first | trivial | assumption | decide)
    | with_reducible refine mo_ite ?_ ?_
    | with_reducible refine mo_ga fun _ => ?_
    | with_reducible refine mo_gi ?_
    | with_reducible refine mo_gd ?_
    | with_reducible refine mo_gb ?_
    | with_reducible refine mo_gv fun _ => ?_
    | with_reducible refine mo_gw (by assumption) (by decide) fun _ _ => ?_
    | with_reducible refine mo_gwb (by assumption) (by decide) fun _ _ => ?_
    | with_reducible refine mo_gp (by assumption) (by decide) fun _ _ => ?_
    | with_reducible refine mo_gpb (by assumption) (by decide) fun _ _ => ?_
    | (with_reducible apply_assumption; assumption)
    | unfold j_He_has_26
    | unfold j_He_has_25
set_option maxRecDepth 8000 in
theorem mo_He_hasField {T : Int} {σ : gM} {v1 v2 : Int} (h : T ≤ σ 4 14) : Mo T (fun _ => True) (F_He_hasField σ v1 v2) := by
  unfold F_He_hasField
  repeat' first
    | with_reducible exact mo_some (by assumption) (by first | trivial | assumption | decide)
    | with_reducible refine mo_ite ?_ ?_
    | with_reducible refine mo_ga fun _ => ?_
    | with_reducible refine mo_gi ?_
    | with_reducible refine mo_gd ?_
    | with_reducible refine mo_gb ?_
    | with_reducible refine mo_gv fun _ => ?_
    | with_reducible refine mo_gw (by assumption) (by decide) fun _ _ => ?_
    | with_reducible refine mo_gwb (by assumption) (by decide) fun _ _ => ?_
    | with_reducible refine mo_gp (by assumption) (by decide) fun _ _ => ?_
    | with_reducible refine mo_gpb (by assumption) (by decide) fun _ _ => ?_
    | with_reducible refine mo_gk (mo_He_has (by assumption)) fun _ _ _ _ => ?_
    | with_reducible exact mo_He_has (by assumption)
    | (with_reducible apply_assumption; assumption)
    | unfold j_He_hasField_27
    | unfold j_He_hasField_26
set_option maxRecDepth 8000 in
theorem mo_He_freeNumber {T : Int} {σ : gM} (h : T ≤ σ 4 14) : Mo T (fun _ => True) (F_He_freeNumber σ) := by
  unfold F_He_freeNumber
  repeat' first
    | with_reducible exact mo_some (by assumption) (by first | trivial | assumption | decide)
    | with_reducible refine mo_ite ?_ ?_
    | with_reducible refine mo_ga fun _ => ?_
    | with_reducible refine mo_gi ?_
    | with_reducible refine mo_gd ?_
    | with_reducible refine mo_gb ?_
    | with_reducible refine mo_gv fun _ => ?_
    | with_reducible refine mo_gw (by assumption) (by decide) fun _ _ => ?_
    | with_reducible refine mo_gwb (by assumption) (by decide) fun _ _ => ?_
    | with_reducible refine mo_gp (by assumption) (by decide) fun _ _ => ?_
    | with_reducible refine mo_gpb (by assumption) (by decide) fun _ _ => ?_
    | with_reducible refine mo_gl1 (fun rec hr s a hs => ?_) _ (by assumption)
    | (with_reducible apply_assumption; assumption)
    | unfold l_He_freeNumber_2
set_option maxRecDepth 8000 in
theorem mo_He_place {T : Int} {σ : gM} {v1 v2 v3 v4 : Int} (h : T ≤ σ 4 14) : Mo T (fun _ => True) (F_He_place σ v1 v2 v3 v4) := by
  unfold F_He_place
  repeat' first
    | with_reducible exact mo_some (by assumption) (by first | trivial | assumption | decide)
    | with_reducible refine mo_ite ?_ ?_
    | with_reducible refine mo_ga fun _ => ?_
    | with_reducible refine mo_gi ?_
    | with_reducible refine mo_gd ?_
    | with_reducible refine mo_gb ?_
    | with_reducible refine mo_gv fun _ => ?_
    | with_reducible refine mo_gw (by assumption) (by decide) fun _ _ => ?_
    | with_reducible refine mo_gwb (by assumption) (by decide) fun _ _ => ?_
    | with_reducible refine mo_gp (by assumption) (by decide) fun _ _ => ?_
    | with_reducible refine mo_gpb (by assumption) (by decide) fun _ _ => ?_
    | with_reducible refine mo_gk (mo_Le_add (by assumption) (by first | exact Or.inr (by decide) | exact Or.inl (by decide))) fun _ _ _ _ => ?_
    | with_reducible exact mo_Le_add (by assumption) (by first | exact Or.inr (by decide) | exact Or.inl (by decide))
    | (with_reducible apply_assumption; assumption)
set_option maxRecDepth 8000 in
theorem mo_He_rounded {T : Int} {σ : gM} {v0 : Int} (h : T ≤ σ 4 14) : Mo T (fun _ => True) (F_He_rounded σ v0) := by
  unfold F_He_rounded
  repeat' first
    | with_reducible exact mo_some (by assumption) (by first | trivial | assumption | decide)
    | with_reducible refine mo_ite ?_ ?_
    | with_reducible refine mo_ga fun _ => ?_
    | with_reducible refine mo_gi ?_
    | with_reducible refine mo_gd ?_
    | with_reducible refine mo_gb ?_
    | with_reducible refine mo_gv fun _ => ?_
    | with_reducible refine mo_gw (by assumption) (by decide) fun _ _ => ?_
    | with_reducible refine mo_gwb (by assumption) (by decide) fun _ _ => ?_
    | with_reducible refine mo_gp (by assumption) (by decide) fun _ _ => ?_
    | with_reducible refine mo_gpb (by assumption) (by decide) fun _ _ => ?_
    | (with_reducible apply_assumption; assumption)
set_option maxRecDepth 8000 in
theorem mo_He_objectFrom {T : Int} {σ : gM} {v1 : Int} (h : T ≤ σ 4 14) : Mo T (fun _ => True) (F_He_objectFrom σ v1) := by
  unfold F_He_objectFrom
  repeat' first
    | with_reducible exact mo_some (by assumption) (by first | trivial | assumption | decide)
    | with_reducible refine mo_ite ?_ ?_
    | with_reducible refine mo_ga fun _ => ?_
    | with_reducible refine mo_gi ?_
    | with_reducible refine mo_gd ?_
    | with_reducible refine mo_gb ?_
    | with_reducible refine mo_gv fun _ => ?_
    | with_reducible refine mo_gw (by assumption) (by decide) fun _ _ => ?_
    | with_reducible refine mo_gwb (by assumption) (by decide) fun _ _ => ?_
    | with_reducible refine mo_gp (by assumption) (by decide) fun _ _ => ?_
    | with_reducible refine mo_gpb (by assumption) (by decide) fun _ _ => ?_
    | with_reducible refine mo_gl2 (fun rec hr s a b hs => ?_) _ (by assumption)
    | (with_reducible apply_assumption; assumption)
    | unfold j_He_objectFrom_56
    | unfold j_He_objectFrom_54
    | unfold l_He_objectFrom_4
set_option maxRecDepth 8000 in
theorem mo_He_freeStart {T : Int} {σ : gM} {v1 : Int} (h : T ≤ σ 4 14) : Mo T (fun _ => True) (F_He_freeStart σ v1) := by
  unfold F_He_freeStart
  repeat' first
    | with_reducible exact mo_some (by assumption) (by first | trivial | assumption | decide)
    | with_reducible refine mo_ite ?_ ?_
    | with_reducible refine mo_ga fun _ => ?_
    | with_reducible refine mo_gi ?_
    | with_reducible refine mo_gd ?_
    | with_reducible refine mo_gb ?_
    | with_reducible refine mo_gv fun _ => ?_
    | with_reducible refine mo_gw (by assumption) (by decide) fun _ _ => ?_
    | with_reducible refine mo_gwb (by assumption) (by decide) fun _ _ => ?_
    | with_reducible refine mo_gp (by assumption) (by decide) fun _ _ => ?_
    | with_reducible refine mo_gpb (by assumption) (by decide) fun _ _ => ?_
    | with_reducible refine mo_gk (mo_He_objectFrom (by assumption)) fun _ _ _ _ => ?_
    | with_reducible exact mo_He_objectFrom (by assumption)
    | with_reducible refine mo_gk (mo_He_rounded (by assumption)) fun _ _ _ _ => ?_
    | with_reducible exact mo_He_rounded (by assumption)
    | with_reducible refine mo_gl2 (fun rec hr s a b hs => ?_) _ (by assumption)
    | (with_reducible apply_assumption; assumption)
    | unfold l_He_freeStart_4
    | unfold j_He_freeStart_56
set_option maxRecDepth 8000 in
theorem mo_He_freeEnd {T : Int} {σ : gM} {v1 : Int} (h : T ≤ σ 4 14) : Mo T (fun _ => True) (F_He_freeEnd σ v1) := by
  unfold F_He_freeEnd
  repeat' first
    | with_reducible exact mo_some (by assumption) (by first | trivial | assumption | decide)
    | with_reducible refine mo_ite ?_ ?_
    | with_reducible refine mo_ga fun _ => ?_
    | with_reducible refine mo_gi ?_
    | with_reducible refine mo_gd ?_
    | with_reducible refine mo_gb ?_
    | with_reducible refine mo_gv fun _ => ?_
    | with_reducible refine mo_gw (by assumption) (by decide) fun _ _ => ?_
    | with_reducible refine mo_gwb (by assumption) (by decide) fun _ _ => ?_
    | with_reducible refine mo_gp (by assumption) (by decide) fun _ _ => ?_
    | with_reducible refine mo_gpb (by assumption) (by decide) fun _ _ => ?_
    | with_reducible refine mo_gk (mo_He_objectFrom (by assumption)) fun _ _ _ _ => ?_
    | with_reducible exact mo_He_objectFrom (by assumption)
    | (with_reducible apply_assumption; assumption)
    | unfold j_He_freeEnd_23
set_option maxRecDepth 8000 in
theorem mo_He_freeRoom {T : Int} {σ : gM} {v1 : Int} (h : T ≤ σ 4 14) : Mo T (fun _ => True) (F_He_freeRoom σ v1) := by
  unfold F_He_freeRoom
  repeat' first
    | with_reducible exact mo_some (by assumption) (by first | trivial | assumption | decide)
    | with_reducible refine mo_ite ?_ ?_
    | with_reducible refine mo_ga fun _ => ?_
    | with_reducible refine mo_gi ?_
    | with_reducible refine mo_gd ?_
    | with_reducible refine mo_gb ?_
    | with_reducible refine mo_gv fun _ => ?_
    | with_reducible refine mo_gw (by assumption) (by decide) fun _ _ => ?_
    | with_reducible refine mo_gwb (by assumption) (by decide) fun _ _ => ?_
    | with_reducible refine mo_gp (by assumption) (by decide) fun _ _ => ?_
    | with_reducible refine mo_gpb (by assumption) (by decide) fun _ _ => ?_
    | with_reducible refine mo_gk (mo_He_freeStart (by assumption)) fun _ _ _ _ => ?_
    | with_reducible exact mo_He_freeStart (by assumption)
    | with_reducible refine mo_gk (mo_He_freeEnd (by assumption)) fun _ _ _ _ => ?_
    | with_reducible exact mo_He_freeEnd (by assumption)
    | with_reducible refine mo_gl2 (fun rec hr s a b hs => ?_) _ (by assumption)
    | (with_reducible apply_assumption; assumption)
    | unfold l_He_freeRoom_8
    | unfold j_He_freeRoom_55
    | unfold j_He_freeRoom_42
set_option maxRecDepth 8000 in
theorem mo_He_roomFor {T : Int} {σ : gM} {v1 : Int} (h : T ≤ σ 4 14) : Mo T (fun _ => True) (F_He_roomFor σ v1) := by
  unfold F_He_roomFor
  repeat' first
    | with_reducible exact mo_some (by assumption) (by first | trivial | assumption | decide)
    | with_reducible refine mo_ite ?_ ?_
    | with_reducible refine mo_ga fun _ => ?_
    | with_reducible refine mo_gi ?_
    | with_reducible refine mo_gd ?_
    | with_reducible refine mo_gb ?_
    | with_reducible refine mo_gv fun _ => ?_
    | with_reducible refine mo_gw (by assumption) (by decide) fun _ _ => ?_
    | with_reducible refine mo_gwb (by assumption) (by decide) fun _ _ => ?_
    | with_reducible refine mo_gp (by assumption) (by decide) fun _ _ => ?_
    | with_reducible refine mo_gpb (by assumption) (by decide) fun _ _ => ?_
    | with_reducible refine mo_gk (mo_He_rounded (by assumption)) fun _ _ _ _ => ?_
    | with_reducible exact mo_He_rounded (by assumption)
    | with_reducible refine mo_gk (mo_He_freeStart (by assumption)) fun _ _ _ _ => ?_
    | with_reducible exact mo_He_freeStart (by assumption)
    | with_reducible refine mo_gk (mo_He_freeEnd (by assumption)) fun _ _ _ _ => ?_
    | with_reducible exact mo_He_freeEnd (by assumption)
    | with_reducible refine mo_gl4 (fun rec hr s a b c d hs => ?_) _ (by assumption)
    | (with_reducible apply_assumption; assumption)
    | unfold j_He_roomFor_89
    | unfold j_He_roomFor_70
    | unfold l_He_roomFor_21
    | unfold j_He_roomFor_103
set_option maxRecDepth 8000 in
theorem mo_He_putBehind {T : Int} {σ : gM} {v1 : Int} (h : T ≤ σ 4 14) : Mo T (fun _ => True) (F_He_putBehind σ v1) := by
  unfold F_He_putBehind
  repeat' first
    | with_reducible exact mo_some (by assumption) (by first | trivial | assumption | decide)
    | with_reducible refine mo_ite ?_ ?_
    | with_reducible refine mo_ga fun _ => ?_
    | with_reducible refine mo_gi ?_
    | with_reducible refine mo_gd ?_
    | with_reducible refine mo_gb ?_
    | with_reducible refine mo_gv fun _ => ?_
    | with_reducible refine mo_gw (by assumption) (by decide) fun _ _ => ?_
    | with_reducible refine mo_gwb (by assumption) (by decide) fun _ _ => ?_
    | with_reducible refine mo_gp (by assumption) (by decide) fun _ _ => ?_
    | with_reducible refine mo_gpb (by assumption) (by decide) fun _ _ => ?_
    | with_reducible refine mo_gk (mo_He_has (by assumption)) fun _ _ _ _ => ?_
    | with_reducible exact mo_He_has (by assumption)
    | (with_reducible apply_assumption; assumption)
    | unfold j_He_putBehind_17
set_option maxRecDepth 8000 in
theorem mo_He_startRow {T : Int} {σ : gM} {v1 : Int} (h : T ≤ σ 4 14) : Mo T (fun _ => True) (F_He_startRow σ v1) := by
  unfold F_He_startRow
  repeat' first
    | with_reducible exact mo_some (by assumption) (by first | trivial | assumption | decide)
    | with_reducible refine mo_ite ?_ ?_
    | with_reducible refine mo_ga fun _ => ?_
    | with_reducible refine mo_gi ?_
    | with_reducible refine mo_gd ?_
    | with_reducible refine mo_gb ?_
    | with_reducible refine mo_gv fun _ => ?_
    | with_reducible refine mo_gw (by assumption) (by decide) fun _ _ => ?_
    | with_reducible refine mo_gwb (by assumption) (by decide) fun _ _ => ?_
    | with_reducible refine mo_gp (by assumption) (by decide) fun _ _ => ?_
    | with_reducible refine mo_gpb (by assumption) (by decide) fun _ _ => ?_
    | with_reducible refine mo_gk (mo_He_putBehind (by assumption)) fun _ _ _ _ => ?_
    | with_reducible exact mo_He_putBehind (by assumption)
    | with_reducible refine mo_gl1 (fun rec hr s a hs => ?_) _ (by assumption)
    | (with_reducible apply_assumption; assumption)
    | unfold l_He_startRow_7
    | unfold l_He_startRow_28
    | unfold j_He_startRow_79
    | unfold l_He_startRow_58
set_option maxRecDepth 8000 in
theorem mo_Ru_pageAt {T : Int} {σ : gM} {v1 : Int} (h : T ≤ σ 4 14) : Mo T (fun _ => True) (F_Ru_pageAt σ v1) := by
  unfold F_Ru_pageAt
  repeat' first
    | with_reducible exact mo_some (by assumption) (by first | trivial | assumption | decide)
    | with_reducible refine mo_ite ?_ ?_
    | with_reducible refine mo_ga fun _ => ?_
    | with_reducible refine mo_gi ?_
    | with_reducible refine mo_gd ?_
    | with_reducible refine mo_gb ?_
    | with_reducible refine mo_gv fun _ => ?_
    | with_reducible refine mo_gw (by assumption) (by decide) fun _ _ => ?_
    | with_reducible refine mo_gwb (by assumption) (by decide) fun _ _ => ?_
    | with_reducible refine mo_gp (by assumption) (by decide) fun _ _ => ?_
    | with_reducible refine mo_gpb (by assumption) (by decide) fun _ _ => ?_
    | (with_reducible apply_assumption; assumption)
set_option maxRecDepth 8000 in
theorem mo_Ru_append {T : Int} {σ : gM} {v1 : Int} (h : T ≤ σ 4 14) : Mo T (fun _ => True) (F_Ru_append σ v1) := by
  unfold F_Ru_append
  repeat' first
    | with_reducible exact mo_some (by assumption) (by first | trivial | assumption | decide)
    | with_reducible refine mo_ite ?_ ?_
    | with_reducible refine mo_ga fun _ => ?_
    | with_reducible refine mo_gi ?_
    | with_reducible refine mo_gd ?_
    | with_reducible refine mo_gb ?_
    | with_reducible refine mo_gv fun _ => ?_
    | with_reducible refine mo_gw (by assumption) (by decide) fun _ _ => ?_
    | with_reducible refine mo_gwb (by assumption) (by decide) fun _ _ => ?_
    | with_reducible refine mo_gp (by assumption) (by decide) fun _ _ => ?_
    | with_reducible refine mo_gpb (by assumption) (by decide) fun _ _ => ?_
    | with_reducible refine mo_gk (mo_Ru_pageAt (by assumption)) fun _ _ _ _ => ?_
    | with_reducible exact mo_Ru_pageAt (by assumption)
    | (with_reducible apply_assumption; assumption)
    | unfold j_Ru_append_75
    | unfold j_Ru_append_22
set_option maxRecDepth 8000 in
theorem mo_Me_handStops {T : Int} {σ : gM} (h : T ≤ σ 4 14) : Mo T (fun _ => True) (F_Me_handStops σ) := by
  unfold F_Me_handStops
  repeat' first
    | with_reducible exact mo_some (by assumption) (by first | trivial | assumption | decide)
    | with_reducible refine mo_ite ?_ ?_
    | with_reducible refine mo_ga fun _ => ?_
    | with_reducible refine mo_gi ?_
    | with_reducible refine mo_gd ?_
    | with_reducible refine mo_gb ?_
    | with_reducible refine mo_gv fun _ => ?_
    | with_reducible refine mo_gw (by assumption) (by decide) fun _ _ => ?_
    | with_reducible refine mo_gwb (by assumption) (by decide) fun _ _ => ?_
    | with_reducible refine mo_gp (by assumption) (by decide) fun _ _ => ?_
    | with_reducible refine mo_gpb (by assumption) (by decide) fun _ _ => ?_
    | with_reducible refine mo_gl2 (fun rec hr s a b hs => ?_) _ (by assumption)
    | (with_reducible apply_assumption; assumption)
    | unfold j_Me_handStops_38_17
    | unfold l_Me_handStops_7
    | unfold j_Me_handStops_66
set_option maxRecDepth 8000 in
theorem mo_Me_earliest_r25 {T : Int} {σ : gM} (h : T ≤ σ 4 14) : Mo T (fun _ => True) (F_Me_earliest_r25 σ) := by
  unfold F_Me_earliest_r25
  repeat' first
    | with_reducible exact mo_some (by assumption) (by first | trivial | assumption | decide)
    | with_reducible refine mo_ite ?_ ?_
    | with_reducible refine mo_ga fun _ => ?_
    | with_reducible refine mo_gi ?_
    | with_reducible refine mo_gd ?_
    | with_reducible refine mo_gb ?_
    | with_reducible refine mo_gv fun _ => ?_
    | with_reducible refine mo_gw (by assumption) (by decide) fun _ _ => ?_
    | with_reducible refine mo_gwb (by assumption) (by decide) fun _ _ => ?_
    | with_reducible refine mo_gp (by assumption) (by decide) fun _ _ => ?_
    | with_reducible refine mo_gpb (by assumption) (by decide) fun _ _ => ?_
    | with_reducible refine mo_gl2 (fun rec hr s a b hs => ?_) _ (by assumption)
    | (with_reducible apply_assumption; assumption)
    | unfold j_Me_earliest_r25_23_25
    | unfold l_Me_earliest_r25_4_25
set_option maxRecDepth 8000 in
theorem mo_Me_earliest_r24 {T : Int} {σ : gM} (h : T ≤ σ 4 14) : Mo T (fun _ => True) (F_Me_earliest_r24 σ) := by
  unfold F_Me_earliest_r24
  repeat' first
    | with_reducible exact mo_some (by assumption) (by first | trivial | assumption | decide)
    | with_reducible refine mo_ite ?_ ?_
    | with_reducible refine mo_ga fun _ => ?_
    | with_reducible refine mo_gi ?_
    | with_reducible refine mo_gd ?_
    | with_reducible refine mo_gb ?_
    | with_reducible refine mo_gv fun _ => ?_
    | with_reducible refine mo_gw (by assumption) (by decide) fun _ _ => ?_
    | with_reducible refine mo_gwb (by assumption) (by decide) fun _ _ => ?_
    | with_reducible refine mo_gp (by assumption) (by decide) fun _ _ => ?_
    | with_reducible refine mo_gpb (by assumption) (by decide) fun _ _ => ?_
    | with_reducible refine mo_gl2 (fun rec hr s a b hs => ?_) _ (by assumption)
    | (with_reducible apply_assumption; assumption)
    | unfold j_Me_earliest_r24_23_24
    | unfold l_Me_earliest_r24_4_24
set_option maxRecDepth 8000 in
theorem mo_Me_frameToFill {T : Int} {σ : gM} (h : T ≤ σ 4 14) : Mo T (fun _ => True) (F_Me_frameToFill σ) := by
  unfold F_Me_frameToFill
  repeat' first
    | with_reducible exact mo_some (by assumption) (by first | trivial | assumption | decide)
    | with_reducible refine mo_ite ?_ ?_
    | with_reducible refine mo_ga fun _ => ?_
    | with_reducible refine mo_gi ?_
    | with_reducible refine mo_gd ?_
    | with_reducible refine mo_gb ?_
    | with_reducible refine mo_gv fun _ => ?_
    | with_reducible refine mo_gw (by assumption) (by decide) fun _ _ => ?_
    | with_reducible refine mo_gwb (by assumption) (by decide) fun _ _ => ?_
    | with_reducible refine mo_gp (by assumption) (by decide) fun _ _ => ?_
    | with_reducible refine mo_gpb (by assumption) (by decide) fun _ _ => ?_
    | with_reducible refine mo_gk (mo_Me_earliest_r24 (by assumption)) fun _ _ _ _ => ?_
    | with_reducible exact mo_Me_earliest_r24 (by assumption)
    | with_reducible refine mo_gk (mo_Me_earliest_r25 (by assumption)) fun _ _ _ _ => ?_
    | with_reducible exact mo_Me_earliest_r25 (by assumption)
    | with_reducible refine mo_gk (mo_Me_handStops (by assumption)) fun _ _ _ _ => ?_
    | with_reducible exact mo_Me_handStops (by assumption)
    | with_reducible refine mo_gl1 (fun rec hr s a hs => ?_) _ (by assumption)
    | (with_reducible apply_assumption; assumption)
    | unfold l_Me_frameToFill_2
set_option maxRecDepth 8000 in
theorem mo_Me_arrive {T : Int} {σ : gM} {v1 v2 : Int} (h : T ≤ σ 4 14) : Mo T (fun _ => True) (F_Me_arrive σ v1 v2) := by
  unfold F_Me_arrive
  repeat' first
    | with_reducible exact mo_some (by assumption) (by first | trivial | assumption | decide)
    | with_reducible refine mo_ite ?_ ?_
    | with_reducible refine mo_ga fun _ => ?_
    | with_reducible refine mo_gi ?_
    | with_reducible refine mo_gd ?_
    | with_reducible refine mo_gb ?_
    | with_reducible refine mo_gv fun _ => ?_
    | with_reducible refine mo_gw (by assumption) (by decide) fun _ _ => ?_
    | with_reducible refine mo_gwb (by assumption) (by decide) fun _ _ => ?_
    | with_reducible refine mo_gp (by assumption) (by decide) fun _ _ => ?_
    | with_reducible refine mo_gpb (by assumption) (by decide) fun _ _ => ?_
    | with_reducible refine mo_gk (mo_Ce_coded (by assumption)) fun _ _ _ _ => ?_
    | with_reducible exact mo_Ce_coded (by assumption)
    | with_reducible refine mo_gl1 (fun rec hr s a hs => ?_) _ (by assumption)
    | (with_reducible apply_assumption; assumption)
    | unfold j_Me_arrive_55_6
    | unfold l_Me_arrive_2
set_option maxRecDepth 8000 in
theorem mo_Me_leave {T : Int} {σ : gM} {v1 v2 : Int} (h : T ≤ σ 4 14) : Mo T (fun _ => True) (F_Me_leave σ v1 v2) := by
  unfold F_Me_leave
  repeat' first
    | with_reducible exact mo_some (by assumption) (by first | trivial | assumption | decide)
    | with_reducible refine mo_ite ?_ ?_
    | with_reducible refine mo_ga fun _ => ?_
    | with_reducible refine mo_gi ?_
    | with_reducible refine mo_gd ?_
    | with_reducible refine mo_gb ?_
    | with_reducible refine mo_gv fun _ => ?_
    | with_reducible refine mo_gw (by assumption) (by decide) fun _ _ => ?_
    | with_reducible refine mo_gwb (by assumption) (by decide) fun _ _ => ?_
    | with_reducible refine mo_gp (by assumption) (by decide) fun _ _ => ?_
    | with_reducible refine mo_gpb (by assumption) (by decide) fun _ _ => ?_
    | with_reducible refine mo_gk (mo_Ca_dismiss (by assumption)) fun _ _ _ _ => ?_
    | with_reducible exact mo_Ca_dismiss (by assumption)
    | with_reducible refine mo_gk (mo_Le_spend (by assumption) (by first | decide | assumption)) fun _ _ _ _ => ?_
    | with_reducible exact mo_Le_spend (by assumption) (by first | decide | assumption)
    | with_reducible refine mo_gk (mo_Ce_read (by assumption)) fun _ _ _ _ => ?_
    | with_reducible exact mo_Ce_read (by assumption)
    | with_reducible refine mo_gk (mo_Le_add (by assumption) (by first | exact Or.inr (by decide) | exact Or.inl (by decide))) fun _ _ _ _ => ?_
    | with_reducible exact mo_Le_add (by assumption) (by first | exact Or.inr (by decide) | exact Or.inl (by decide))
    | with_reducible refine mo_gl1 (fun rec hr s a hs => ?_) _ (by assumption)
    | (with_reducible apply_assumption; assumption)
    | unfold l_Me_leave_47
    | unfold j_Me_leave_34
set_option maxRecDepth 8000 in
theorem mo_Me_touch {T : Int} {σ : gM} {v1 : Int} (h : T ≤ σ 4 14) : Mo T (fun _ => True) (F_Me_touch σ v1) := by
  unfold F_Me_touch
  repeat' first
    | with_reducible exact mo_some (by assumption) (by first | trivial | assumption | decide)
    | with_reducible refine mo_ite ?_ ?_
    | with_reducible refine mo_ga fun _ => ?_
    | with_reducible refine mo_gi ?_
    | with_reducible refine mo_gd ?_
    | with_reducible refine mo_gb ?_
    | with_reducible refine mo_gv fun _ => ?_
    | with_reducible refine mo_gw (by assumption) (by decide) fun _ _ => ?_
    | with_reducible refine mo_gwb (by assumption) (by decide) fun _ _ => ?_
    | with_reducible refine mo_gp (by assumption) (by decide) fun _ _ => ?_
    | with_reducible refine mo_gpb (by assumption) (by decide) fun _ _ => ?_
    | with_reducible refine mo_gk (mo_Le_add (by assumption) (by first | exact Or.inr (by decide) | exact Or.inl (by decide))) fun _ _ _ _ => ?_
    | with_reducible exact mo_Le_add (by assumption) (by first | exact Or.inr (by decide) | exact Or.inl (by decide))
    | with_reducible refine mo_gk (mo_Le_spend (by assumption) (by first | decide | assumption)) fun _ _ _ _ => ?_
    | with_reducible exact mo_Le_spend (by assumption) (by first | decide | assumption)
    | with_reducible refine mo_gk (mo_Me_frameToFill (by assumption)) fun _ _ _ _ => ?_
    | with_reducible exact mo_Me_frameToFill (by assumption)
    | with_reducible refine mo_gk (mo_Me_leave (by assumption)) fun _ _ _ _ => ?_
    | with_reducible exact mo_Me_leave (by assumption)
    | with_reducible refine mo_gk (mo_Ru_append (by assumption)) fun _ _ _ _ => ?_
    | with_reducible exact mo_Ru_append (by assumption)
    | with_reducible refine mo_gk (mo_Me_arrive (by assumption)) fun _ _ _ _ => ?_
    | with_reducible exact mo_Me_arrive (by assumption)
    | (with_reducible apply_assumption; assumption)
    | unfold j_Me_touch_78
    | unfold j_Me_touch_72
set_option maxRecDepth 8000 in
theorem mo_He_follow {T : Int} {σ : gM} {v1 : Int} (h : T ≤ σ 4 14) : Mo T (fun _ => True) (F_He_follow σ v1) := by
  unfold F_He_follow
  repeat' first
    | with_reducible exact mo_some (by assumption) (by first | trivial | assumption | decide)
    | with_reducible refine mo_ite ?_ ?_
    | with_reducible refine mo_ga fun _ => ?_
    | with_reducible refine mo_gi ?_
    | with_reducible refine mo_gd ?_
    | with_reducible refine mo_gb ?_
    | with_reducible refine mo_gv fun _ => ?_
    | with_reducible refine mo_gw (by assumption) (by decide) fun _ _ => ?_
    | with_reducible refine mo_gwb (by assumption) (by decide) fun _ _ => ?_
    | with_reducible refine mo_gp (by assumption) (by decide) fun _ _ => ?_
    | with_reducible refine mo_gpb (by assumption) (by decide) fun _ _ => ?_
    | with_reducible refine mo_gk (mo_Me_touch (by assumption)) fun _ _ _ _ => ?_
    | with_reducible exact mo_Me_touch (by assumption)
    | with_reducible refine mo_gk (mo_Ca_ask (by assumption)) fun _ _ _ _ => ?_
    | with_reducible exact mo_Ca_ask (by assumption)
    | with_reducible refine mo_gk (mo_He_putBehind (by assumption)) fun _ _ _ _ => ?_
    | with_reducible exact mo_He_putBehind (by assumption)
    | with_reducible refine mo_gl1 (fun rec hr s a hs => ?_) _ (by assumption)
    | (with_reducible apply_assumption; assumption)
    | unfold j_He_follow_81
    | unfold l_He_follow_26
    | unfold l_He_follow_2
    | unfold j_He_follow_93
set_option maxRecDepth 8000 in
theorem mo_He_buryOthers {T : Int} {σ : gM} (h : T ≤ σ 4 14) : Mo T (fun _ => True) (F_He_buryOthers σ) := by
  unfold F_He_buryOthers
  repeat' first
    | with_reducible exact mo_some (by assumption) (by first | trivial | assumption | decide)
    | with_reducible refine mo_ite ?_ ?_
    | with_reducible refine mo_ga fun _ => ?_
    | with_reducible refine mo_gi ?_
    | with_reducible refine mo_gd ?_
    | with_reducible refine mo_gb ?_
    | with_reducible refine mo_gv fun _ => ?_
    | with_reducible refine mo_gw (by assumption) (by decide) fun _ _ => ?_
    | with_reducible refine mo_gwb (by assumption) (by decide) fun _ _ => ?_
    | with_reducible refine mo_gp (by assumption) (by decide) fun _ _ => ?_
    | with_reducible refine mo_gpb (by assumption) (by decide) fun _ _ => ?_
    | with_reducible refine mo_gk (mo_Le_add (by assumption) (by first | exact Or.inr (by decide) | exact Or.inl (by decide))) fun _ _ _ _ => ?_
    | with_reducible exact mo_Le_add (by assumption) (by first | exact Or.inr (by decide) | exact Or.inl (by decide))
    | with_reducible refine mo_gk (mo_He_has (by assumption)) fun _ _ _ _ => ?_
    | with_reducible exact mo_He_has (by assumption)
    | with_reducible refine mo_gl1 (fun rec hr s a hs => ?_) _ (by assumption)
    | with_reducible refine mo_gl2 (fun rec hr s a b hs => ?_) _ (by assumption)
    | (with_reducible apply_assumption; assumption)
    | unfold j_He_buryOthers_71
    | unfold j_He_buryOthers_65
    | unfold l_He_buryOthers_43
    | unfold l_He_buryOthers_4
set_option maxRecDepth 8000 in
theorem mo_He_closeUp {T : Int} {σ : gM} (h : T ≤ σ 4 14) : Mo T (fun _ => True) (F_He_closeUp σ) := by
  unfold F_He_closeUp
  repeat' first
    | with_reducible exact mo_some (by assumption) (by first | trivial | assumption | decide)
    | with_reducible refine mo_ite ?_ ?_
    | with_reducible refine mo_ga fun _ => ?_
    | with_reducible refine mo_gi ?_
    | with_reducible refine mo_gd ?_
    | with_reducible refine mo_gb ?_
    | with_reducible refine mo_gv fun _ => ?_
    | with_reducible refine mo_gw (by assumption) (by decide) fun _ _ => ?_
    | with_reducible refine mo_gwb (by assumption) (by decide) fun _ _ => ?_
    | with_reducible refine mo_gp (by assumption) (by decide) fun _ _ => ?_
    | with_reducible refine mo_gpb (by assumption) (by decide) fun _ _ => ?_
    | with_reducible refine mo_gk (mo_Me_touch (by assumption)) fun _ _ _ _ => ?_
    | with_reducible exact mo_Me_touch (by assumption)
    | with_reducible refine mo_gk (mo_Ca_ask (by assumption)) fun _ _ _ _ => ?_
    | with_reducible exact mo_Ca_ask (by assumption)
    | with_reducible refine mo_gk (mo_Ca_change (by assumption)) fun _ _ _ _ => ?_
    | with_reducible exact mo_Ca_change (by assumption)
    | with_reducible refine mo_gk (mo_Le_add (by assumption) (by first | exact Or.inr (by decide) | exact Or.inl (by decide))) fun _ _ _ _ => ?_
    | with_reducible exact mo_Le_add (by assumption) (by first | exact Or.inr (by decide) | exact Or.inl (by decide))
    | with_reducible refine mo_gk (mo_He_rounded (by assumption)) fun _ _ _ _ => ?_
    | with_reducible exact mo_He_rounded (by assumption)
    | with_reducible refine mo_gk (mo_He_objectFrom (by assumption)) fun _ _ _ _ => ?_
    | with_reducible exact mo_He_objectFrom (by assumption)
    | with_reducible refine mo_gl1 (fun rec hr s a hs => ?_) _ (by assumption)
    | with_reducible refine mo_gl2 (fun rec hr s a b hs => ?_) _ (by assumption)
    | (with_reducible apply_assumption; assumption)
    | unfold j_He_closeUp_115
    | unfold l_He_closeUp_35
    | unfold j_He_closeUp_121
    | unfold l_He_closeUp_4
set_option maxRecDepth 8000 in
theorem mo_He_collect {T : Int} {σ : gM} {v1 : Int} (h : T ≤ σ 4 14) : Mo T (fun _ => True) (F_He_collect σ v1) := by
  unfold F_He_collect
  repeat' first
    | with_reducible exact mo_some (by assumption) (by first | trivial | assumption | decide)
    | with_reducible refine mo_ite ?_ ?_
    | with_reducible refine mo_ga fun _ => ?_
    | with_reducible refine mo_gi ?_
    | with_reducible refine mo_gd ?_
    | with_reducible refine mo_gb ?_
    | with_reducible refine mo_gv fun _ => ?_
    | with_reducible refine mo_gw (by assumption) (by decide) fun _ _ => ?_
    | with_reducible refine mo_gwb (by assumption) (by decide) fun _ _ => ?_
    | with_reducible refine mo_gp (by assumption) (by decide) fun _ _ => ?_
    | with_reducible refine mo_gpb (by assumption) (by decide) fun _ _ => ?_
    | with_reducible refine mo_gk (mo_Le_add (by assumption) (by first | exact Or.inr (by decide) | exact Or.inl (by decide))) fun _ _ _ _ => ?_
    | with_reducible exact mo_Le_add (by assumption) (by first | exact Or.inr (by decide) | exact Or.inl (by decide))
    | with_reducible refine mo_gk (mo_He_startRow (by assumption)) fun _ _ _ _ => ?_
    | with_reducible exact mo_He_startRow (by assumption)
    | with_reducible refine mo_gk (mo_He_follow (by assumption)) fun _ _ _ _ => ?_
    | with_reducible exact mo_He_follow (by assumption)
    | with_reducible refine mo_gk (mo_He_buryOthers (by assumption)) fun _ _ _ _ => ?_
    | with_reducible exact mo_He_buryOthers (by assumption)
    | with_reducible refine mo_gk (mo_He_closeUp (by assumption)) fun _ _ _ _ => ?_
    | with_reducible exact mo_He_closeUp (by assumption)
    | with_reducible refine mo_gk (mo_He_has (by assumption)) fun _ _ _ _ => ?_
    | with_reducible exact mo_He_has (by assumption)
    | with_reducible refine mo_gk (mo_He_putBehind (by assumption)) fun _ _ _ _ => ?_
    | with_reducible exact mo_He_putBehind (by assumption)
    | with_reducible refine mo_gl1 (fun rec hr s a hs => ?_) _ (by assumption)
    | with_reducible refine mo_gl2 (fun rec hr s a b hs => ?_) _ (by assumption)
    | (with_reducible apply_assumption; assumption)
    | unfold j_He_collect_94
    | unfold l_He_collect_31
    | unfold j_He_collect_143
    | unfold l_He_collect_116
    | unfold j_He_collect_113
set_option maxRecDepth 8000 in
theorem mo_Me_resize {T : Int} {σ : gM} {v1 : Int} (h : T ≤ σ 4 14) : Mo T (fun _ => True) (F_Me_resize σ v1) := by
  unfold F_Me_resize
  repeat' first
    | with_reducible exact mo_some (by assumption) (by first | trivial | assumption | decide)
    | with_reducible refine mo_ite ?_ ?_
    | with_reducible refine mo_ga fun _ => ?_
    | with_reducible refine mo_gi ?_
    | with_reducible refine mo_gd ?_
    | with_reducible refine mo_gb ?_
    | with_reducible refine mo_gv fun _ => ?_
    | with_reducible refine mo_gw (by assumption) (by decide) fun _ _ => ?_
    | with_reducible refine mo_gwb (by assumption) (by decide) fun _ _ => ?_
    | with_reducible refine mo_gp (by assumption) (by decide) fun _ _ => ?_
    | with_reducible refine mo_gpb (by assumption) (by decide) fun _ _ => ?_
    | with_reducible refine mo_gk (mo_Me_leave (by assumption)) fun _ _ _ _ => ?_
    | with_reducible exact mo_Me_leave (by assumption)
    | with_reducible refine mo_gl1 (fun rec hr s a hs => ?_) _ (by assumption)
    | (with_reducible apply_assumption; assumption)
    | unfold j_Me_resize_25
    | unfold l_Me_resize_2
set_option maxRecDepth 8000 in
theorem mo_Ru_nextUse {T : Int} {σ : gM} {v1 v2 : Int} (h : T ≤ σ 4 14) : Mo T (fun _ => True) (F_Ru_nextUse σ v1 v2) := by
  unfold F_Ru_nextUse
  repeat' first
    | with_reducible exact mo_some (by assumption) (by first | trivial | assumption | decide)
    | with_reducible refine mo_ite ?_ ?_
    | with_reducible refine mo_ga fun _ => ?_
    | with_reducible refine mo_gi ?_
    | with_reducible refine mo_gd ?_
    | with_reducible refine mo_gb ?_
    | with_reducible refine mo_gv fun _ => ?_
    | with_reducible refine mo_gw (by assumption) (by decide) fun _ _ => ?_
    | with_reducible refine mo_gwb (by assumption) (by decide) fun _ _ => ?_
    | with_reducible refine mo_gp (by assumption) (by decide) fun _ _ => ?_
    | with_reducible refine mo_gpb (by assumption) (by decide) fun _ _ => ?_
    | with_reducible refine mo_gk (mo_Ru_pageAt (by assumption)) fun _ _ _ _ => ?_
    | with_reducible exact mo_Ru_pageAt (by assumption)
    | with_reducible refine mo_gl1 (fun rec hr s a hs => ?_) _ (by assumption)
    | (with_reducible apply_assumption; assumption)
    | unfold l_Ru_nextUse_2
set_option maxRecDepth 8000 in
theorem mo_Ru_furthest {T : Int} {σ : gM} (h : T ≤ σ 4 14) : Mo T (fun _ => True) (F_Ru_furthest σ) := by
  unfold F_Ru_furthest
  repeat' first
    | with_reducible exact mo_some (by assumption) (by first | trivial | assumption | decide)
    | with_reducible refine mo_ite ?_ ?_
    | with_reducible refine mo_ga fun _ => ?_
    | with_reducible refine mo_gi ?_
    | with_reducible refine mo_gd ?_
    | with_reducible refine mo_gb ?_
    | with_reducible refine mo_gv fun _ => ?_
    | with_reducible refine mo_gw (by assumption) (by decide) fun _ _ => ?_
    | with_reducible refine mo_gwb (by assumption) (by decide) fun _ _ => ?_
    | with_reducible refine mo_gp (by assumption) (by decide) fun _ _ => ?_
    | with_reducible refine mo_gpb (by assumption) (by decide) fun _ _ => ?_
    | with_reducible refine mo_gl2 (fun rec hr s a b hs => ?_) _ (by assumption)
    | (with_reducible apply_assumption; assumption)
    | unfold j_Ru_furthest_27
    | unfold l_Ru_furthest_4
set_option maxRecDepth 8000 in
theorem mo_Ru_fewestFaults {T : Int} {σ : gM} {v1 : Int} (h : T ≤ σ 4 14) : Mo T (fun _ => True) (F_Ru_fewestFaults σ v1) := by
  unfold F_Ru_fewestFaults
  repeat' first
    | with_reducible exact mo_some (by assumption) (by first | trivial | assumption | decide)
    | with_reducible refine mo_ite ?_ ?_
    | with_reducible refine mo_ga fun _ => ?_
    | with_reducible refine mo_gi ?_
    | with_reducible refine mo_gd ?_
    | with_reducible refine mo_gb ?_
    | with_reducible refine mo_gv fun _ => ?_
    | with_reducible refine mo_gw (by assumption) (by decide) fun _ _ => ?_
    | with_reducible refine mo_gwb (by assumption) (by decide) fun _ _ => ?_
    | with_reducible refine mo_gp (by assumption) (by decide) fun _ _ => ?_
    | with_reducible refine mo_gpb (by assumption) (by decide) fun _ _ => ?_
    | with_reducible refine mo_gk (mo_Ru_nextUse (by assumption)) fun _ _ _ _ => ?_
    | with_reducible exact mo_Ru_nextUse (by assumption)
    | with_reducible refine mo_gk (mo_Ru_pageAt (by assumption)) fun _ _ _ _ => ?_
    | with_reducible exact mo_Ru_pageAt (by assumption)
    | with_reducible refine mo_gk (mo_Ru_furthest (by assumption)) fun _ _ _ _ => ?_
    | with_reducible exact mo_Ru_furthest (by assumption)
    | with_reducible refine mo_gl1 (fun rec hr s a hs => ?_) _ (by assumption)
    | with_reducible refine mo_gl3 (fun rec hr s a b c hs => ?_) _ (by assumption)
    | (with_reducible apply_assumption; assumption)
    | unfold l_Ru_fewestFaults_2
    | unfold j_Ru_fewestFaults_80
    | unfold l_Ru_fewestFaults_28
set_option maxRecDepth 8000 in
theorem mo_Co_within {T : Int} {σ : gM} {v0 v1 : Int} (h : T ≤ σ 4 14) : Mo T (fun _ => True) (F_Co_within σ v0 v1) := by
  unfold F_Co_within
  repeat' first
    | with_reducible exact mo_some (by assumption) (by first | trivial | assumption | decide)
    | with_reducible refine mo_ite ?_ ?_
    | with_reducible refine mo_ga fun _ => ?_
    | with_reducible refine mo_gi ?_
    | with_reducible refine mo_gd ?_
    | with_reducible refine mo_gb ?_
    | with_reducible refine mo_gv fun _ => ?_
    | with_reducible refine mo_gw (by assumption) (by decide) fun _ _ => ?_
    | with_reducible refine mo_gwb (by assumption) (by decide) fun _ _ => ?_
    | with_reducible refine mo_gp (by assumption) (by decide) fun _ _ => ?_
    | with_reducible refine mo_gpb (by assumption) (by decide) fun _ _ => ?_
    | (with_reducible apply_assumption; assumption)
    | unfold j_Co_within_14
    | unfold j_Co_within_13
set_option maxRecDepth 8000 in
theorem mo_Co_limit {T : Int} {σ : gM} {v1 : Int} (h : T ≤ σ 4 14) : Mo T (fun _ => True) (F_Co_limit σ v1) := by
  unfold F_Co_limit
  repeat' first
    | with_reducible exact mo_some (by assumption) (by first | trivial | assumption | decide)
    | with_reducible refine mo_ite ?_ ?_
    | with_reducible refine mo_ga fun _ => ?_
    | with_reducible refine mo_gi ?_
    | with_reducible refine mo_gd ?_
    | with_reducible refine mo_gb ?_
    | with_reducible refine mo_gv fun _ => ?_
    | with_reducible refine mo_gw (by assumption) (by decide) fun _ _ => ?_
    | with_reducible refine mo_gwb (by assumption) (by decide) fun _ _ => ?_
    | with_reducible refine mo_gp (by assumption) (by decide) fun _ _ => ?_
    | with_reducible refine mo_gpb (by assumption) (by decide) fun _ _ => ?_
    | with_reducible refine mo_gk (mo_Co_within (by assumption)) fun _ _ _ _ => ?_
    | with_reducible exact mo_Co_within (by assumption)
    | (with_reducible apply_assumption; assumption)
set_option maxRecDepth 8000 in
theorem mo_Co_flip {T : Int} {σ : gM} {v1 v2 : Int} (h : T ≤ σ 4 14) : Mo T (fun _ => True) (F_Co_flip σ v1 v2) := by
  unfold F_Co_flip
  repeat' first
    | with_reducible exact mo_some (by assumption) (by first | trivial | assumption | decide)
    | with_reducible refine mo_ite ?_ ?_
    | with_reducible refine mo_ga fun _ => ?_
    | with_reducible refine mo_gi ?_
    | with_reducible refine mo_gd ?_
    | with_reducible refine mo_gb ?_
    | with_reducible refine mo_gv fun _ => ?_
    | with_reducible refine mo_gw (by assumption) (by decide) fun _ _ => ?_
    | with_reducible refine mo_gwb (by assumption) (by decide) fun _ _ => ?_
    | with_reducible refine mo_gp (by assumption) (by decide) fun _ _ => ?_
    | with_reducible refine mo_gpb (by assumption) (by decide) fun _ _ => ?_
    | with_reducible refine mo_gk (mo_Co_within (by assumption)) fun _ _ _ _ => ?_
    | with_reducible exact mo_Co_within (by assumption)
    | (with_reducible apply_assumption; assumption)
    | unfold j_Co_flip_19
set_option maxRecDepth 8000 in
theorem mo_Co_refresh {T : Int} {σ : gM} {v1 v2 : Int} (h : T ≤ σ 4 14) : Mo T (fun _ => True) (F_Co_refresh σ v1 v2) := by
  unfold F_Co_refresh
  repeat' first
    | with_reducible exact mo_some (by assumption) (by first | trivial | assumption | decide)
    | with_reducible refine mo_ite ?_ ?_
    | with_reducible refine mo_ga fun _ => ?_
    | with_reducible refine mo_gi ?_
    | with_reducible refine mo_gd ?_
    | with_reducible refine mo_gb ?_
    | with_reducible refine mo_gv fun _ => ?_
    | with_reducible refine mo_gw (by assumption) (by decide) fun _ _ => ?_
    | with_reducible refine mo_gwb (by assumption) (by decide) fun _ _ => ?_
    | with_reducible refine mo_gp (by assumption) (by decide) fun _ _ => ?_
    | with_reducible refine mo_gpb (by assumption) (by decide) fun _ _ => ?_
    | with_reducible refine mo_gk (mo_Co_within (by assumption)) fun _ _ _ _ => ?_
    | with_reducible exact mo_Co_within (by assumption)
    | (with_reducible apply_assumption; assumption)
    | unfold j_Co_refresh_17
set_option maxRecDepth 8000 in
theorem mo_Co_cell {T : Int} {σ : gM} {v1 v2 : Int} (h : T ≤ σ 4 14) : Mo T (fun _ => True) (F_Co_cell σ v1 v2) := by
  unfold F_Co_cell
  repeat' first
    | with_reducible exact mo_some (by assumption) (by first | trivial | assumption | decide)
    | with_reducible refine mo_ite ?_ ?_
    | with_reducible refine mo_ga fun _ => ?_
    | with_reducible refine mo_gi ?_
    | with_reducible refine mo_gd ?_
    | with_reducible refine mo_gb ?_
    | with_reducible refine mo_gv fun _ => ?_
    | with_reducible refine mo_gw (by assumption) (by decide) fun _ _ => ?_
    | with_reducible refine mo_gwb (by assumption) (by decide) fun _ _ => ?_
    | with_reducible refine mo_gp (by assumption) (by decide) fun _ _ => ?_
    | with_reducible refine mo_gpb (by assumption) (by decide) fun _ _ => ?_
    | with_reducible refine mo_gk (mo_Co_within (by assumption)) fun _ _ _ _ => ?_
    | with_reducible exact mo_Co_within (by assumption)
    | with_reducible refine mo_gk (mo_Ce_righted (by assumption)) fun _ _ _ _ => ?_
    | with_reducible exact mo_Ce_righted (by assumption)
    | with_reducible refine mo_gk (mo_Ce_valueOf (by assumption)) fun _ _ _ _ => ?_
    | with_reducible exact mo_Ce_valueOf (by assumption)
    | (with_reducible apply_assumption; assumption)
    | unfold j_Co_cell_18
    | unfold j_Co_cell_59
set_option maxRecDepth 8000 in
theorem mo_Co_open {T : Int} {σ : gM} {v1 : Int} (h : T ≤ σ 4 14) : Mo T (fun _ => True) (F_Co_open σ v1) := by
  unfold F_Co_open
  repeat' first
    | with_reducible exact mo_some (by assumption) (by first | trivial | assumption | decide)
    | with_reducible refine mo_ite ?_ ?_
    | with_reducible refine mo_ga fun _ => ?_
    | with_reducible refine mo_gi ?_
    | with_reducible refine mo_gd ?_
    | with_reducible refine mo_gb ?_
    | with_reducible refine mo_gv fun _ => ?_
    | with_reducible refine mo_gw (by assumption) (by decide) fun _ _ => ?_
    | with_reducible refine mo_gwb (by assumption) (by decide) fun _ _ => ?_
    | with_reducible refine mo_gp (by assumption) (by decide) fun _ _ => ?_
    | with_reducible refine mo_gpb (by assumption) (by decide) fun _ _ => ?_
    | with_reducible refine mo_gk (mo_Co_within (by assumption)) fun _ _ _ _ => ?_
    | with_reducible exact mo_Co_within (by assumption)
    | (with_reducible apply_assumption; assumption)
set_option maxRecDepth 8000 in
theorem mo_Jd_bitCount {T : Int} {σ : gM} {v0 : Int} (h : T ≤ σ 4 14) : Mo T (fun _ => True) (F_Jd_bitCount σ v0) := by
  unfold F_Jd_bitCount
  repeat' first
    | with_reducible exact mo_some (by assumption) (by first | trivial | assumption | decide)
    | with_reducible refine mo_ite ?_ ?_
    | with_reducible refine mo_ga fun _ => ?_
    | with_reducible refine mo_gi ?_
    | with_reducible refine mo_gd ?_
    | with_reducible refine mo_gb ?_
    | with_reducible refine mo_gv fun _ => ?_
    | with_reducible refine mo_gw (by assumption) (by decide) fun _ _ => ?_
    | with_reducible refine mo_gwb (by assumption) (by decide) fun _ _ => ?_
    | with_reducible refine mo_gp (by assumption) (by decide) fun _ _ => ?_
    | with_reducible refine mo_gpb (by assumption) (by decide) fun _ _ => ?_
    | (with_reducible apply_assumption; assumption)
set_option maxRecDepth 8000 in
theorem mo_Co_patterns {T : Int} {σ : gM} {v1 v2 : Int} (h : T ≤ σ 4 14) : Mo T (fun _ => True) (F_Co_patterns σ v1 v2) := by
  unfold F_Co_patterns
  repeat' first
    | with_reducible exact mo_some (by assumption) (by first | trivial | assumption | decide)
    | with_reducible refine mo_ite ?_ ?_
    | with_reducible refine mo_ga fun _ => ?_
    | with_reducible refine mo_gi ?_
    | with_reducible refine mo_gd ?_
    | with_reducible refine mo_gb ?_
    | with_reducible refine mo_gv fun _ => ?_
    | with_reducible refine mo_gw (by assumption) (by decide) fun _ _ => ?_
    | with_reducible refine mo_gwb (by assumption) (by decide) fun _ _ => ?_
    | with_reducible refine mo_gp (by assumption) (by decide) fun _ _ => ?_
    | with_reducible refine mo_gpb (by assumption) (by decide) fun _ _ => ?_
    | with_reducible refine mo_gk (mo_Co_within (by assumption)) fun _ _ _ _ => ?_
    | with_reducible exact mo_Co_within (by assumption)
    | with_reducible refine mo_gk (mo_Jd_bitCount (by assumption)) fun _ _ _ _ => ?_
    | with_reducible exact mo_Jd_bitCount (by assumption)
    | with_reducible refine mo_gk (mo_Ce_outcome (by assumption)) fun _ _ _ _ => ?_
    | with_reducible exact mo_Ce_outcome (by assumption)
    | with_reducible refine mo_gl2 (fun rec hr s a b hs => ?_) _ (by assumption)
    | (with_reducible apply_assumption; assumption)
    | unfold j_Co_patterns_17
    | unfold j_Co_patterns_53
    | unfold l_Co_patterns_24
set_option maxRecDepth 8000 in
theorem mo_Co_lines {T : Int} {σ : gM} {v1 v2 : Int} (h : T ≤ σ 4 14) : Mo T (fun _ => True) (F_Co_lines σ v1 v2) := by
  unfold F_Co_lines
  repeat' first
    | with_reducible exact mo_some (by assumption) (by first | trivial | assumption | decide)
    | with_reducible refine mo_ite ?_ ?_
    | with_reducible refine mo_ga fun _ => ?_
    | with_reducible refine mo_gi ?_
    | with_reducible refine mo_gd ?_
    | with_reducible refine mo_gb ?_
    | with_reducible refine mo_gv fun _ => ?_
    | with_reducible refine mo_gw (by assumption) (by decide) fun _ _ => ?_
    | with_reducible refine mo_gwb (by assumption) (by decide) fun _ _ => ?_
    | with_reducible refine mo_gp (by assumption) (by decide) fun _ _ => ?_
    | with_reducible refine mo_gpb (by assumption) (by decide) fun _ _ => ?_
    | with_reducible refine mo_gk (mo_Ca_reshape (by assumption)) fun _ _ _ _ => ?_
    | with_reducible exact mo_Ca_reshape (by assumption)
    | (with_reducible apply_assumption; assumption)
    | unfold j_Co_lines_27
    | unfold j_Co_lines_17
set_option maxRecDepth 8000 in
theorem mo_Co_rule {T : Int} {σ : gM} {v1 v2 : Int} (h : T ≤ σ 4 14) : Mo T (fun _ => True) (F_Co_rule σ v1 v2) := by
  unfold F_Co_rule
  repeat' first
    | with_reducible exact mo_some (by assumption) (by first | trivial | assumption | decide)
    | with_reducible refine mo_ite ?_ ?_
    | with_reducible refine mo_ga fun _ => ?_
    | with_reducible refine mo_gi ?_
    | with_reducible refine mo_gd ?_
    | with_reducible refine mo_gb ?_
    | with_reducible refine mo_gv fun _ => ?_
    | with_reducible refine mo_gw (by assumption) (by decide) fun _ _ => ?_
    | with_reducible refine mo_gwb (by assumption) (by decide) fun _ _ => ?_
    | with_reducible refine mo_gp (by assumption) (by decide) fun _ _ => ?_
    | with_reducible refine mo_gpb (by assumption) (by decide) fun _ _ => ?_
    | with_reducible refine mo_gk (mo_Co_within (by assumption)) fun _ _ _ _ => ?_
    | with_reducible exact mo_Co_within (by assumption)
    | (with_reducible apply_assumption; assumption)
    | unfold j_Co_rule_20
set_option maxRecDepth 8000 in
theorem mo_Co_line {T : Int} {σ : gM} {v1 v2 : Int} (h : T ≤ σ 4 14) : Mo T (fun _ => True) (F_Co_line σ v1 v2) := by
  unfold F_Co_line
  repeat' first
    | with_reducible exact mo_some (by assumption) (by first | trivial | assumption | decide)
    | with_reducible refine mo_ite ?_ ?_
    | with_reducible refine mo_ga fun _ => ?_
    | with_reducible refine mo_gi ?_
    | with_reducible refine mo_gd ?_
    | with_reducible refine mo_gb ?_
    | with_reducible refine mo_gv fun _ => ?_
    | with_reducible refine mo_gw (by assumption) (by decide) fun _ _ => ?_
    | with_reducible refine mo_gwb (by assumption) (by decide) fun _ _ => ?_
    | with_reducible refine mo_gp (by assumption) (by decide) fun _ _ => ?_
    | with_reducible refine mo_gpb (by assumption) (by decide) fun _ _ => ?_
    | with_reducible refine mo_gk (mo_Co_within (by assumption)) fun _ _ _ _ => ?_
    | with_reducible exact mo_Co_within (by assumption)
    | (with_reducible apply_assumption; assumption)
    | unfold j_Co_line_17
set_option maxRecDepth 8000 in
theorem mo_Co_frames {T : Int} {σ : gM} {v1 : Int} (h : T ≤ σ 4 14) : Mo T (fun _ => True) (F_Co_frames σ v1) := by
  unfold F_Co_frames
  repeat' first
    | with_reducible exact mo_some (by assumption) (by first | trivial | assumption | decide)
    | with_reducible refine mo_ite ?_ ?_
    | with_reducible refine mo_ga fun _ => ?_
    | with_reducible refine mo_gi ?_
    | with_reducible refine mo_gd ?_
    | with_reducible refine mo_gb ?_
    | with_reducible refine mo_gv fun _ => ?_
    | with_reducible refine mo_gw (by assumption) (by decide) fun _ _ => ?_
    | with_reducible refine mo_gwb (by assumption) (by decide) fun _ _ => ?_
    | with_reducible refine mo_gp (by assumption) (by decide) fun _ _ => ?_
    | with_reducible refine mo_gpb (by assumption) (by decide) fun _ _ => ?_
    | with_reducible refine mo_gk (mo_Me_resize (by assumption)) fun _ _ _ _ => ?_
    | with_reducible exact mo_Me_resize (by assumption)
    | (with_reducible apply_assumption; assumption)
    | unfold j_Co_frames_11
set_option maxRecDepth 8000 in
theorem mo_Co_page {T : Int} {σ : gM} {v1 v2 : Int} (h : T ≤ σ 4 14) : Mo T (fun _ => True) (F_Co_page σ v1 v2) := by
  unfold F_Co_page
  repeat' first
    | with_reducible exact mo_some (by assumption) (by first | trivial | assumption | decide)
    | with_reducible refine mo_ite ?_ ?_
    | with_reducible refine mo_ga fun _ => ?_
    | with_reducible refine mo_gi ?_
    | with_reducible refine mo_gd ?_
    | with_reducible refine mo_gb ?_
    | with_reducible refine mo_gv fun _ => ?_
    | with_reducible refine mo_gw (by assumption) (by decide) fun _ _ => ?_
    | with_reducible refine mo_gwb (by assumption) (by decide) fun _ _ => ?_
    | with_reducible refine mo_gp (by assumption) (by decide) fun _ _ => ?_
    | with_reducible refine mo_gpb (by assumption) (by decide) fun _ _ => ?_
    | with_reducible refine mo_gk (mo_Co_within (by assumption)) fun _ _ _ _ => ?_
    | with_reducible exact mo_Co_within (by assumption)
    | (with_reducible apply_assumption; assumption)
    | unfold j_Co_page_17
    | unfold j_Co_page_50
set_option maxRecDepth 8000 in
theorem mo_Co_loadTold {T : Int} {σ : gM} {v1 v2 : Int} (h : T ≤ σ 4 14) : Mo T (fun _ => True) (F_Co_loadTold σ v1 v2) := by
  unfold F_Co_loadTold
  repeat' first
    | with_reducible exact mo_some (by assumption) (by first | trivial | assumption | decide)
    | with_reducible refine mo_ite ?_ ?_
    | with_reducible refine mo_ga fun _ => ?_
    | with_reducible refine mo_gi ?_
    | with_reducible refine mo_gd ?_
    | with_reducible refine mo_gb ?_
    | with_reducible refine mo_gv fun _ => ?_
    | with_reducible refine mo_gw (by assumption) (by decide) fun _ _ => ?_
    | with_reducible refine mo_gwb (by assumption) (by decide) fun _ _ => ?_
    | with_reducible refine mo_gp (by assumption) (by decide) fun _ _ => ?_
    | with_reducible refine mo_gpb (by assumption) (by decide) fun _ _ => ?_
    | with_reducible refine mo_gk (mo_Me_touch (by assumption)) fun _ _ _ _ => ?_
    | with_reducible exact mo_Me_touch (by assumption)
    | with_reducible refine mo_gk (mo_Ca_ask (by assumption)) fun _ _ _ _ => ?_
    | with_reducible exact mo_Ca_ask (by assumption)
    | with_reducible refine mo_gk (mo_Le_add (by assumption) (by first | exact Or.inr (by decide) | exact Or.inl (by decide))) fun _ _ _ _ => ?_
    | with_reducible exact mo_Le_add (by assumption) (by first | exact Or.inr (by decide) | exact Or.inl (by decide))
    | (with_reducible apply_assumption; assumption)
    | unfold j_Co_loadTold_33
set_option maxRecDepth 8000 in
theorem mo_Co_load {T : Int} {σ : gM} {v1 v2 : Int} (h : T ≤ σ 4 14) : Mo T (fun _ => True) (F_Co_load σ v1 v2) := by
  unfold F_Co_load
  repeat' first
    | with_reducible exact mo_some (by assumption) (by first | trivial | assumption | decide)
    | with_reducible refine mo_ite ?_ ?_
    | with_reducible refine mo_ga fun _ => ?_
    | with_reducible refine mo_gi ?_
    | with_reducible refine mo_gd ?_
    | with_reducible refine mo_gb ?_
    | with_reducible refine mo_gv fun _ => ?_
    | with_reducible refine mo_gw (by assumption) (by decide) fun _ _ => ?_
    | with_reducible refine mo_gwb (by assumption) (by decide) fun _ _ => ?_
    | with_reducible refine mo_gp (by assumption) (by decide) fun _ _ => ?_
    | with_reducible refine mo_gpb (by assumption) (by decide) fun _ _ => ?_
    | with_reducible refine mo_gk (mo_Co_within (by assumption)) fun _ _ _ _ => ?_
    | with_reducible exact mo_Co_within (by assumption)
    | with_reducible refine mo_gk (mo_Co_loadTold (by assumption)) fun _ _ _ _ => ?_
    | with_reducible exact mo_Co_loadTold (by assumption)
    | (with_reducible apply_assumption; assumption)
    | unfold j_Co_load_18
set_option maxRecDepth 8000 in
theorem mo_Co_save {T : Int} {σ : gM} {v1 v2 v3 : Int} (h : T ≤ σ 4 14) : Mo T (fun _ => True) (F_Co_save σ v1 v2 v3) := by
  unfold F_Co_save
  repeat' first
    | with_reducible exact mo_some (by assumption) (by first | trivial | assumption | decide)
    | with_reducible refine mo_ite ?_ ?_
    | with_reducible refine mo_ga fun _ => ?_
    | with_reducible refine mo_gi ?_
    | with_reducible refine mo_gd ?_
    | with_reducible refine mo_gb ?_
    | with_reducible refine mo_gv fun _ => ?_
    | with_reducible refine mo_gw (by assumption) (by decide) fun _ _ => ?_
    | with_reducible refine mo_gwb (by assumption) (by decide) fun _ _ => ?_
    | with_reducible refine mo_gp (by assumption) (by decide) fun _ _ => ?_
    | with_reducible refine mo_gpb (by assumption) (by decide) fun _ _ => ?_
    | with_reducible refine mo_gk (mo_Co_within (by assumption)) fun _ _ _ _ => ?_
    | with_reducible exact mo_Co_within (by assumption)
    | with_reducible refine mo_gk (mo_Me_touch (by assumption)) fun _ _ _ _ => ?_
    | with_reducible exact mo_Me_touch (by assumption)
    | with_reducible refine mo_gk (mo_Ca_change (by assumption)) fun _ _ _ _ => ?_
    | with_reducible exact mo_Ca_change (by assumption)
    | (with_reducible apply_assumption; assumption)
    | unfold j_Co_save_28
set_option maxRecDepth 8000 in
theorem mo_Co_fewest {T : Int} {σ : gM} {v1 : Int} (h : T ≤ σ 4 14) : Mo T (fun _ => True) (F_Co_fewest σ v1) := by
  unfold F_Co_fewest
  repeat' first
    | with_reducible exact mo_some (by assumption) (by first | trivial | assumption | decide)
    | with_reducible refine mo_ite ?_ ?_
    | with_reducible refine mo_ga fun _ => ?_
    | with_reducible refine mo_gi ?_
    | with_reducible refine mo_gd ?_
    | with_reducible refine mo_gb ?_
    | with_reducible refine mo_gv fun _ => ?_
    | with_reducible refine mo_gw (by assumption) (by decide) fun _ _ => ?_
    | with_reducible refine mo_gwb (by assumption) (by decide) fun _ _ => ?_
    | with_reducible refine mo_gp (by assumption) (by decide) fun _ _ => ?_
    | with_reducible refine mo_gpb (by assumption) (by decide) fun _ _ => ?_
    | with_reducible refine mo_gk (mo_Ru_fewestFaults (by assumption)) fun _ _ _ _ => ?_
    | with_reducible exact mo_Ru_fewestFaults (by assumption)
    | (with_reducible apply_assumption; assumption)
    | unfold j_Co_fewest_11
set_option maxRecDepth 8000 in
theorem mo_Co_make {T : Int} {σ : gM} {v1 v2 v3 : Int} (h : T ≤ σ 4 14) : Mo T (fun _ => True) (F_Co_make σ v1 v2 v3) := by
  unfold F_Co_make
  repeat' first
    | with_reducible exact mo_some (by assumption) (by first | trivial | assumption | decide)
    | with_reducible refine mo_ite ?_ ?_
    | with_reducible refine mo_ga fun _ => ?_
    | with_reducible refine mo_gi ?_
    | with_reducible refine mo_gd ?_
    | with_reducible refine mo_gb ?_
    | with_reducible refine mo_gv fun _ => ?_
    | with_reducible refine mo_gw (by assumption) (by decide) fun _ _ => ?_
    | with_reducible refine mo_gwb (by assumption) (by decide) fun _ _ => ?_
    | with_reducible refine mo_gp (by assumption) (by decide) fun _ _ => ?_
    | with_reducible refine mo_gpb (by assumption) (by decide) fun _ _ => ?_
    | with_reducible refine mo_gk (mo_Co_within (by assumption)) fun _ _ _ _ => ?_
    | with_reducible exact mo_Co_within (by assumption)
    | with_reducible refine mo_gk (mo_He_roomFor (by assumption)) fun _ _ _ _ => ?_
    | with_reducible exact mo_He_roomFor (by assumption)
    | with_reducible refine mo_gk (mo_He_freeNumber (by assumption)) fun _ _ _ _ => ?_
    | with_reducible exact mo_He_freeNumber (by assumption)
    | with_reducible refine mo_gk (mo_Me_touch (by assumption)) fun _ _ _ _ => ?_
    | with_reducible exact mo_Me_touch (by assumption)
    | with_reducible refine mo_gk (mo_Ca_change (by assumption)) fun _ _ _ _ => ?_
    | with_reducible exact mo_Ca_change (by assumption)
    | with_reducible refine mo_gk (mo_He_place (by assumption)) fun _ _ _ _ => ?_
    | with_reducible exact mo_He_place (by assumption)
    | with_reducible refine mo_gk (mo_He_collect (by assumption)) fun _ _ _ _ => ?_
    | with_reducible exact mo_He_collect (by assumption)
    | with_reducible refine mo_gl1 (fun rec hr s a hs => ?_) _ (by assumption)
    | (with_reducible apply_assumption; assumption)
    | unfold j_Co_make_19
    | unfold j_Co_make_88
    | unfold l_Co_make_107
    | unfold j_Co_make_55
    | unfold j_Co_make_46
set_option maxRecDepth 8000 in
theorem mo_Co_get {T : Int} {σ : gM} {v1 v2 v3 : Int} (h : T ≤ σ 4 14) : Mo T (fun _ => True) (F_Co_get σ v1 v2 v3) := by
  unfold F_Co_get
  repeat' first
    | with_reducible exact mo_some (by assumption) (by first | trivial | assumption | decide)
    | with_reducible refine mo_ite ?_ ?_
    | with_reducible refine mo_ga fun _ => ?_
    | with_reducible refine mo_gi ?_
    | with_reducible refine mo_gd ?_
    | with_reducible refine mo_gb ?_
    | with_reducible refine mo_gv fun _ => ?_
    | with_reducible refine mo_gw (by assumption) (by decide) fun _ _ => ?_
    | with_reducible refine mo_gwb (by assumption) (by decide) fun _ _ => ?_
    | with_reducible refine mo_gp (by assumption) (by decide) fun _ _ => ?_
    | with_reducible refine mo_gpb (by assumption) (by decide) fun _ _ => ?_
    | with_reducible refine mo_gk (mo_Co_within (by assumption)) fun _ _ _ _ => ?_
    | with_reducible exact mo_Co_within (by assumption)
    | with_reducible refine mo_gk (mo_He_hasField (by assumption)) fun _ _ _ _ => ?_
    | with_reducible exact mo_He_hasField (by assumption)
    | with_reducible refine mo_gk (mo_Co_loadTold (by assumption)) fun _ _ _ _ => ?_
    | with_reducible exact mo_Co_loadTold (by assumption)
    | (with_reducible apply_assumption; assumption)
    | unfold j_Co_get_20
set_option maxRecDepth 8000 in
theorem mo_Co_put {T : Int} {σ : gM} {v1 v2 v3 v4 : Int} (h : T ≤ σ 4 14) : Mo T (fun _ => True) (F_Co_put σ v1 v2 v3 v4) := by
  unfold F_Co_put
  repeat' first
    | with_reducible exact mo_some (by assumption) (by first | trivial | assumption | decide)
    | with_reducible refine mo_ite ?_ ?_
    | with_reducible refine mo_ga fun _ => ?_
    | with_reducible refine mo_gi ?_
    | with_reducible refine mo_gd ?_
    | with_reducible refine mo_gb ?_
    | with_reducible refine mo_gv fun _ => ?_
    | with_reducible refine mo_gw (by assumption) (by decide) fun _ _ => ?_
    | with_reducible refine mo_gwb (by assumption) (by decide) fun _ _ => ?_
    | with_reducible refine mo_gp (by assumption) (by decide) fun _ _ => ?_
    | with_reducible refine mo_gpb (by assumption) (by decide) fun _ _ => ?_
    | with_reducible refine mo_gk (mo_Co_within (by assumption)) fun _ _ _ _ => ?_
    | with_reducible exact mo_Co_within (by assumption)
    | with_reducible refine mo_gk (mo_He_hasField (by assumption)) fun _ _ _ _ => ?_
    | with_reducible exact mo_He_hasField (by assumption)
    | with_reducible refine mo_gk (mo_He_has (by assumption)) fun _ _ _ _ => ?_
    | with_reducible exact mo_He_has (by assumption)
    | with_reducible refine mo_gk (mo_Me_touch (by assumption)) fun _ _ _ _ => ?_
    | with_reducible exact mo_Me_touch (by assumption)
    | with_reducible refine mo_gk (mo_Ca_change (by assumption)) fun _ _ _ _ => ?_
    | with_reducible exact mo_Ca_change (by assumption)
    | (with_reducible apply_assumption; assumption)
    | unfold j_Co_put_20
    | unfold j_Co_put_62
set_option maxRecDepth 8000 in
theorem mo_Co_hold {T : Int} {σ : gM} {v1 v2 v3 : Int} (h : T ≤ σ 4 14) : Mo T (fun _ => True) (F_Co_hold σ v1 v2 v3) := by
  unfold F_Co_hold
  repeat' first
    | with_reducible exact mo_some (by assumption) (by first | trivial | assumption | decide)
    | with_reducible refine mo_ite ?_ ?_
    | with_reducible refine mo_ga fun _ => ?_
    | with_reducible refine mo_gi ?_
    | with_reducible refine mo_gd ?_
    | with_reducible refine mo_gb ?_
    | with_reducible refine mo_gv fun _ => ?_
    | with_reducible refine mo_gw (by assumption) (by decide) fun _ _ => ?_
    | with_reducible refine mo_gwb (by assumption) (by decide) fun _ _ => ?_
    | with_reducible refine mo_gp (by assumption) (by decide) fun _ _ => ?_
    | with_reducible refine mo_gpb (by assumption) (by decide) fun _ _ => ?_
    | with_reducible refine mo_gk (mo_Co_within (by assumption)) fun _ _ _ _ => ?_
    | with_reducible exact mo_Co_within (by assumption)
    | with_reducible refine mo_gk (mo_He_has (by assumption)) fun _ _ _ _ => ?_
    | with_reducible exact mo_He_has (by assumption)
    | (with_reducible apply_assumption; assumption)
    | unfold j_Co_hold_57_34
    | unfold j_Co_hold_21_34
    | unfold j_Co_hold_57_35
    | unfold j_Co_hold_21_35
set_option maxRecDepth 8000 in
theorem mo_Co_gather {T : Int} {σ : gM} {v1 : Int} (h : T ≤ σ 4 14) : Mo T (fun _ => True) (F_Co_gather σ v1) := by
  unfold F_Co_gather
  repeat' first
    | with_reducible exact mo_some (by assumption) (by first | trivial | assumption | decide)
    | with_reducible refine mo_ite ?_ ?_
    | with_reducible refine mo_ga fun _ => ?_
    | with_reducible refine mo_gi ?_
    | with_reducible refine mo_gd ?_
    | with_reducible refine mo_gb ?_
    | with_reducible refine mo_gv fun _ => ?_
    | with_reducible refine mo_gw (by assumption) (by decide) fun _ _ => ?_
    | with_reducible refine mo_gwb (by assumption) (by decide) fun _ _ => ?_
    | with_reducible refine mo_gp (by assumption) (by decide) fun _ _ => ?_
    | with_reducible refine mo_gpb (by assumption) (by decide) fun _ _ => ?_
    | with_reducible refine mo_gk (mo_Co_within (by assumption)) fun _ _ _ _ => ?_
    | with_reducible exact mo_Co_within (by assumption)
    | with_reducible refine mo_gk (mo_He_collect (by assumption)) fun _ _ _ _ => ?_
    | with_reducible exact mo_He_collect (by assumption)
    | (with_reducible apply_assumption; assumption)
set_option maxRecDepth 8000 in
theorem mo_Co_about {T : Int} {σ : gM} {v1 v2 : Int} (h : T ≤ σ 4 14) : Mo T (fun _ => True) (F_Co_about σ v1 v2) := by
  unfold F_Co_about
  repeat' first
    | with_reducible exact mo_some (by assumption) (by first | trivial | assumption | decide)
    | with_reducible refine mo_ite ?_ ?_
    | with_reducible refine mo_ga fun _ => ?_
    | with_reducible refine mo_gi ?_
    | with_reducible refine mo_gd ?_
    | with_reducible refine mo_gb ?_
    | with_reducible refine mo_gv fun _ => ?_
    | with_reducible refine mo_gw (by assumption) (by decide) fun _ _ => ?_
    | with_reducible refine mo_gwb (by assumption) (by decide) fun _ _ => ?_
    | with_reducible refine mo_gp (by assumption) (by decide) fun _ _ => ?_
    | with_reducible refine mo_gpb (by assumption) (by decide) fun _ _ => ?_
    | with_reducible refine mo_gk (mo_He_has (by assumption)) fun _ _ _ _ => ?_
    | with_reducible exact mo_He_has (by assumption)
    | (with_reducible apply_assumption; assumption)
    | unfold j_Co_about_95
set_option maxRecDepth 8000 in
theorem mo_Co_room {T : Int} {σ : gM} {v1 v2 : Int} (h : T ≤ σ 4 14) : Mo T (fun _ => True) (F_Co_room σ v1 v2) := by
  unfold F_Co_room
  repeat' first
    | with_reducible exact mo_some (by assumption) (by first | trivial | assumption | decide)
    | with_reducible refine mo_ite ?_ ?_
    | with_reducible refine mo_ga fun _ => ?_
    | with_reducible refine mo_gi ?_
    | with_reducible refine mo_gd ?_
    | with_reducible refine mo_gb ?_
    | with_reducible refine mo_gv fun _ => ?_
    | with_reducible refine mo_gw (by assumption) (by decide) fun _ _ => ?_
    | with_reducible refine mo_gwb (by assumption) (by decide) fun _ _ => ?_
    | with_reducible refine mo_gp (by assumption) (by decide) fun _ _ => ?_
    | with_reducible refine mo_gpb (by assumption) (by decide) fun _ _ => ?_
    | with_reducible refine mo_gk (mo_Co_within (by assumption)) fun _ _ _ _ => ?_
    | with_reducible exact mo_Co_within (by assumption)
    | with_reducible refine mo_gk (mo_He_freeRoom (by assumption)) fun _ _ _ _ => ?_
    | with_reducible exact mo_He_freeRoom (by assumption)
    | with_reducible refine mo_gk (mo_He_freeEnd (by assumption)) fun _ _ _ _ => ?_
    | with_reducible exact mo_He_freeEnd (by assumption)
    | (with_reducible apply_assumption; assumption)
    | unfold j_Co_room_12
    | unfold j_Co_room_50
set_option maxRecDepth 8000 in
theorem mo_Co_blame {T : Int} {σ : gM} {v1 : Int} (h : T ≤ σ 4 14) : Mo T (fun _ => True) (F_Co_blame σ v1) := by
  unfold F_Co_blame
  repeat' first
    | with_reducible exact mo_some (by assumption) (by first | trivial | assumption | decide)
    | with_reducible refine mo_ite ?_ ?_
    | with_reducible refine mo_ga fun _ => ?_
    | with_reducible refine mo_gi ?_
    | with_reducible refine mo_gd ?_
    | with_reducible refine mo_gb ?_
    | with_reducible refine mo_gv fun _ => ?_
    | with_reducible refine mo_gw (by assumption) (by decide) fun _ _ => ?_
    | with_reducible refine mo_gwb (by assumption) (by decide) fun _ _ => ?_
    | with_reducible refine mo_gp (by assumption) (by decide) fun _ _ => ?_
    | with_reducible refine mo_gpb (by assumption) (by decide) fun _ _ => ?_
    | with_reducible refine mo_gk (mo_Co_within (by assumption)) fun _ _ _ _ => ?_
    | with_reducible exact mo_Co_within (by assumption)
    | (with_reducible apply_assumption; assumption)
set_option maxRecDepth 8000 in
theorem mo_Co_count {T : Int} {σ : gM} {v1 : Int} (h : T ≤ σ 4 14) : Mo T (fun _ => True) (F_Co_count σ v1) := by
  unfold F_Co_count
  repeat' first
    | with_reducible exact mo_some (by assumption) (by first | trivial | assumption | decide)
    | with_reducible refine mo_ite ?_ ?_
    | with_reducible refine mo_ga fun _ => ?_
    | with_reducible refine mo_gi ?_
    | with_reducible refine mo_gd ?_
    | with_reducible refine mo_gb ?_
    | with_reducible refine mo_gv fun _ => ?_
    | with_reducible refine mo_gw (by assumption) (by decide) fun _ _ => ?_
    | with_reducible refine mo_gwb (by assumption) (by decide) fun _ _ => ?_
    | with_reducible refine mo_gp (by assumption) (by decide) fun _ _ => ?_
    | with_reducible refine mo_gpb (by assumption) (by decide) fun _ _ => ?_
    | with_reducible refine mo_gk (mo_Co_within (by assumption)) fun _ _ _ _ => ?_
    | with_reducible exact mo_Co_within (by assumption)
    | (with_reducible apply_assumption; assumption)
