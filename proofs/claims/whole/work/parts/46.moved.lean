/-! the class' work on a byte goes alike whatever the count of moved bytes is -/
def up (w : Int) (σ : gM) : gM := gU σ 4 15 w
def upO (w : Int) (o : gO) : gO := match o with
  | none => none
  | some q => some (up w q.1, q.2)
def Cz (w : Int) (o o' : gO) : Prop := o' = upO w o
theorem up_k {w : Int} {σ : gM} {k : Nat} (h : k ≠ 4) : up w σ k = σ k := gU_k h
theorem up_w {w v : Int} {σ : gM} {k : Nat} {i : Int} (h : k ≠ 4) : gU (up w σ) k i v = up w (gU σ k i v) := by
  unfold up gU
  funext q j
  by_cases a : q = 4 ∧ j = 15
  · rw [if_neg (fun z => h (z.1.symm.trans a.1)), if_pos a, if_pos a]
  · rw [if_neg a, if_neg a]
theorem cz_some {w : Int} {s : gM} {r : Int} : Cz w (some (s, r)) (some (up w s, r)) := rfl
theorem cz_none {w : Int} : Cz w none none := rfl
theorem cz_ite {w : Int} {c : Prop} {d d' : Decidable c} {a b a' b' : gO} (h1 : Cz w a a') (h2 : Cz w b b') : Cz w (@ite _ c d a b) (@ite _ c d' a' b') := by
  by_cases h : c
  · rw [if_pos h, if_pos h]; exact h1
  · rw [if_neg h, if_neg h]; exact h2
theorem cz_ga {w x : Int} {f f' : Int → gO} (h : ∀ a, Cz w (f a) (f' a)) : Cz w (ga x f) (ga x f') := by
  unfold ga; exact cz_ite (h x) cz_none
theorem cz_gi {w i n : Int} {o o' : gO} (h : Cz w o o') : Cz w (gi i n o) (gi i n o') := by
  unfold gi; exact cz_ite h cz_none
theorem cz_gb {w x : Int} {o o' : gO} (h : Cz w o o') : Cz w (gb x o) (gb x o') := by
  unfold gb; exact cz_ite h cz_none
theorem cz_gd {w x y : Int} {o o' : gO} (h : Cz w o o') : Cz w (gd x y o) (gd x y o') := by
  unfold gd; exact cz_ite h cz_none
theorem cz_gv {w x : Int} {f f' : Int → gO} (h : ∀ a, Cz w (f a) (f' a)) : Cz w (gv x f) (gv x f') := h x
theorem cz_gw {w n i v : Int} {σ : gM} {k : Nat} {f f' : gM → gO} (hk : k ≠ 4) (h : ∀ s, Cz w (f s) (f' (up w s))) : Cz w (gw σ k n i v f) (gw (up w σ) k n i v f') := by
  unfold gw; rw [up_w hk]; exact cz_ite (h _) cz_none
theorem cz_gwb {w n i v : Int} {σ : gM} {k : Nat} {f f' : gM → gO} (hk : k ≠ 4) (h : ∀ s, Cz w (f s) (f' (up w s))) : Cz w (gwb σ k n i v f) (gwb (up w σ) k n i v f') := by
  unfold gwb; rw [up_w hk]; exact cz_ite (h _) cz_none
theorem cz_gp {w j v : Int} {σ : gM} {k : Nat} {f f' : gM → gO} (hk : k ≠ 4) (h : ∀ s, Cz w (f s) (f' (up w s))) : Cz w (gp σ k j v f) (gp (up w σ) k j v f') := by
  unfold gp; rw [up_w hk]; exact h _
theorem cz_gpb {w j v : Int} {σ : gM} {k : Nat} {f f' : gM → gO} (hk : k ≠ 4) (h : ∀ s, Cz w (f s) (f' (up w s))) : Cz w (gpb σ k j v f) (gpb (up w σ) k j v f') := by
  unfold gpb; rw [up_w hk]; exact cz_ite (h _) cz_none
theorem cz_gk {w : Int} {o o' : gO} {K K' : gM → Int → gO} (h : Cz w o o') (hk : ∀ s r, Cz w (K s r) (K' (up w s) r)) : Cz w (gk o K) (gk o' K') := by
  unfold Cz at h
  rw [h]
  cases o with
  | none => exact cz_none
  | some q => exact hk q.1 q.2
theorem cz_gkP {w T : Int} {P : Int → Prop} {o o' : gO} {K K' : gM → Int → gO} (h : Cz w o o') (hp : Mo T P o) (hk : ∀ s r, P r → Cz w (K s r) (K' (up w s) r)) : Cz w (gk o K) (gk o' K') := by
  unfold Cz at h
  rw [h]
  cases o with
  | none => exact cz_none
  | some q => exact hk q.1 q.2 (hp q.1 q.2 rfl).2
def CzF1 (w : Int) (rec : gM → Int → gO) : Prop := ∀ s a, Cz w (rec s a) (rec (up w s) a)
theorem cz_rec1 {w : Int} {rec : gM → Int → gO} (h : CzF1 w rec) {s : gM} {a : Int} : Cz w (rec s a) (rec (up w s) a) := h s a
theorem cz_gl1 {w : Int} {body : (gM → Int → gO) → gM → Int → gO} (h : ∀ rec : gM → Int → gO, CzF1 w rec → ∀ s a, Cz w (body rec s a) (body rec (up w s) a)) : ∀ (n : Nat) {s : gM} {a : Int}, Cz w (gl1 body n s a) (gl1 body n (up w s) a)
  | 0, _, _ => cz_none
  | n + 1, s, a => h _ (fun s a => cz_gl1 h n) s a
def CzF2 (w : Int) (rec : gM → Int → Int → gO) : Prop := ∀ s a b, Cz w (rec s a b) (rec (up w s) a b)
theorem cz_rec2 {w : Int} {rec : gM → Int → Int → gO} (h : CzF2 w rec) {s : gM} {a b : Int} : Cz w (rec s a b) (rec (up w s) a b) := h s a b
theorem cz_gl2 {w : Int} {body : (gM → Int → Int → gO) → gM → Int → Int → gO} (h : ∀ rec : gM → Int → Int → gO, CzF2 w rec → ∀ s a b, Cz w (body rec s a b) (body rec (up w s) a b)) : ∀ (n : Nat) {s : gM} {a b : Int}, Cz w (gl2 body n s a b) (gl2 body n (up w s) a b)
  | 0, _, _, _ => cz_none
  | n + 1, s, a, b => h _ (fun s a b => cz_gl2 h n) s a b
def CzF3 (w : Int) (rec : gM → Int → Int → Int → gO) : Prop := ∀ s a b c, Cz w (rec s a b c) (rec (up w s) a b c)
theorem cz_rec3 {w : Int} {rec : gM → Int → Int → Int → gO} (h : CzF3 w rec) {s : gM} {a b c : Int} : Cz w (rec s a b c) (rec (up w s) a b c) := h s a b c
theorem cz_gl3 {w : Int} {body : (gM → Int → Int → Int → gO) → gM → Int → Int → Int → gO} (h : ∀ rec : gM → Int → Int → Int → gO, CzF3 w rec → ∀ s a b c, Cz w (body rec s a b c) (body rec (up w s) a b c)) : ∀ (n : Nat) {s : gM} {a b c : Int}, Cz w (gl3 body n s a b c) (gl3 body n (up w s) a b c)
  | 0, _, _, _, _ => cz_none
  | n + 1, s, a, b, c => h _ (fun s a b c => cz_gl3 h n) s a b c
def CzF4 (w : Int) (rec : gM → Int → Int → Int → Int → gO) : Prop := ∀ s a b c d, Cz w (rec s a b c d) (rec (up w s) a b c d)
theorem cz_rec4 {w : Int} {rec : gM → Int → Int → Int → Int → gO} (h : CzF4 w rec) {s : gM} {a b c d : Int} : Cz w (rec s a b c d) (rec (up w s) a b c d) := h s a b c d
theorem cz_gl4 {w : Int} {body : (gM → Int → Int → Int → Int → gO) → gM → Int → Int → Int → Int → gO} (h : ∀ rec : gM → Int → Int → Int → Int → gO, CzF4 w rec → ∀ s a b c d, Cz w (body rec s a b c d) (body rec (up w s) a b c d)) : ∀ (n : Nat) {s : gM} {a b c d : Int}, Cz w (gl4 body n s a b c d) (gl4 body n (up w s) a b c d)
  | 0, _, _, _, _, _ => cz_none
  | n + 1, s, a, b, c, d => h _ (fun s a b c d => cz_gl4 h n) s a b c d
theorem cz_Le_add {w c n : Int} {σ : gM} (hc : c ≠ 15) : Cz w (F_Le_add σ c n) (F_Le_add (up w σ) c n) := by
  unfold F_Le_add
  have e : up w σ 4 c = σ 4 c := gU_i hc
  rw [e]
  refine cz_gi (cz_ga fun a => ?_)
  unfold gw
  refine cz_ite ?_ cz_none
  have e2 : gU (up w σ) 4 c a = up w (gU σ 4 c a) := by
    unfold up gU
    funext q j
    by_cases z : q = 4 ∧ j = 15
    · rw [if_neg (fun y => hc (y.2.symm.trans z.2)), if_pos z, if_pos z]
    · rw [if_neg z, if_neg z]
  rw [e2]
  exact cz_some
theorem cz_Le_spend {w c n : Int} {σ : gM} : Cz w (F_Le_spend σ c n) (F_Le_spend (up w σ) c n) := by
  unfold F_Le_spend
  have key : ∀ d, Cz w (j_Le_spend_17_3 σ n d) (j_Le_spend_17_3 (up w σ) n d) := by
    intro d
    unfold j_Le_spend_17_3
    rw [up_k (show (3 : Nat) ≠ 4 by decide)]
    refine cz_gi (cz_ga fun a => cz_gw (by decide) fun s => cz_gi ?_)
    have e : up w s 4 14 = s 4 14 := gU_i (by decide)
    rw [e]
    refine cz_ga fun b => ?_
    unfold gw
    refine cz_ite ?_ cz_none
    have e2 : gU (up w s) 4 14 b = up w (gU s 4 14 b) := by
      unfold up gU
      funext q j
      by_cases z : q = 4 ∧ j = 15
      · rw [if_neg (by omega), if_pos z, if_pos z]
      · rw [if_neg z, if_neg z]
    rw [e2]
    exact cz_some
  rw [up_k (show (2 : Nat) ≠ 4 by decide)]
  exact cz_ite (key _) (key _)
set_option maxRecDepth 8000 in
theorem cz_Ca_leavePlay {w : Int} {σ : gM} {v1 : Int} : Cz w (F_Ca_leavePlay σ v1) (F_Ca_leavePlay (up w σ) v1) := by
  unfold F_Ca_leavePlay
  repeat' first
    | with_reducible exact cz_some
    | with_reducible refine cz_ite ?_ ?_
    | with_reducible refine cz_ga fun _ => ?_
    | with_reducible refine cz_gi ?_
    | with_reducible refine cz_gd ?_
    | with_reducible refine cz_gb ?_
    | with_reducible refine cz_gv fun _ => ?_
    | with_reducible refine cz_gw (by decide) fun _ => ?_
    | with_reducible refine cz_gwb (by decide) fun _ => ?_
    | with_reducible refine cz_gp (by decide) fun _ => ?_
    | with_reducible refine cz_gpb (by decide) fun _ => ?_
    | with_reducible refine cz_gl2 (fun rec hr s a b => ?_) _
    | with_reducible exact cz_rec2 (by assumption)
    | (simp (disch := decide) only [up_k])
    | unfold j_Ca_leavePlay_57
    | unfold j_Ca_leavePlay_54
    | unfold l_Ca_leavePlay_5
set_option maxRecDepth 8000 in
theorem cz_Ca_joinPlay {w : Int} {σ : gM} {v1 v2 : Int} : Cz w (F_Ca_joinPlay σ v1 v2) (F_Ca_joinPlay (up w σ) v1 v2) := by
  unfold F_Ca_joinPlay
  repeat' first
    | with_reducible exact cz_some
    | with_reducible refine cz_ite ?_ ?_
    | with_reducible refine cz_ga fun _ => ?_
    | with_reducible refine cz_gi ?_
    | with_reducible refine cz_gd ?_
    | with_reducible refine cz_gb ?_
    | with_reducible refine cz_gv fun _ => ?_
    | with_reducible refine cz_gw (by decide) fun _ => ?_
    | with_reducible refine cz_gwb (by decide) fun _ => ?_
    | with_reducible refine cz_gp (by decide) fun _ => ?_
    | with_reducible refine cz_gpb (by decide) fun _ => ?_
    | with_reducible refine cz_gk (cz_Ca_leavePlay) fun _ _ => ?_
    | with_reducible exact cz_Ca_leavePlay
    | (simp (disch := decide) only [up_k])
    | unfold j_Ca_joinPlay_23
set_option maxRecDepth 8000 in
theorem cz_Ca_twinOf {w : Int} {σ : gM} {v0 : Int} : Cz w (F_Ca_twinOf σ v0) (F_Ca_twinOf (up w σ) v0) := by
  unfold F_Ca_twinOf
  repeat' first
    | with_reducible exact cz_some
    | with_reducible refine cz_ite ?_ ?_
    | with_reducible refine cz_ga fun _ => ?_
    | with_reducible refine cz_gi ?_
    | with_reducible refine cz_gd ?_
    | with_reducible refine cz_gb ?_
    | with_reducible refine cz_gv fun _ => ?_
    | with_reducible refine cz_gw (by decide) fun _ => ?_
    | with_reducible refine cz_gwb (by decide) fun _ => ?_
    | with_reducible refine cz_gp (by decide) fun _ => ?_
    | with_reducible refine cz_gpb (by decide) fun _ => ?_
    | (simp (disch := decide) only [up_k])
    | unfold j_Ca_twinOf_17
set_option maxRecDepth 8000 in
theorem cz_Ca_causeOf {w : Int} {σ : gM} {v1 : Int} : Cz w (F_Ca_causeOf σ v1) (F_Ca_causeOf (up w σ) v1) := by
  unfold F_Ca_causeOf
  repeat' first
    | with_reducible exact cz_some
    | with_reducible refine cz_ite ?_ ?_
    | with_reducible refine cz_ga fun _ => ?_
    | with_reducible refine cz_gi ?_
    | with_reducible refine cz_gd ?_
    | with_reducible refine cz_gb ?_
    | with_reducible refine cz_gv fun _ => ?_
    | with_reducible refine cz_gw (by decide) fun _ => ?_
    | with_reducible refine cz_gwb (by decide) fun _ => ?_
    | with_reducible refine cz_gp (by decide) fun _ => ?_
    | with_reducible refine cz_gpb (by decide) fun _ => ?_
    | (simp (disch := decide) only [up_k])
    | unfold j_Ca_causeOf_36
theorem rv_causeOf {σ : gM} {v1 : Int} : Mo (σ 4 14) (fun r => r ≠ 15) (F_Ca_causeOf σ v1) := by
  have h : σ 4 14 ≤ σ 4 14 := Int.le_refl _
  unfold F_Ca_causeOf
  repeat' first
    | with_reducible exact mo_some (by assumption) (by decide)
    | with_reducible refine mo_ite ?_ ?_
    | with_reducible refine mo_ga fun _ => ?_
    | with_reducible refine mo_gi ?_
    | with_reducible refine mo_gb ?_
    | with_reducible refine mo_gv fun _ => ?_
    | unfold j_Ca_causeOf_36
set_option maxRecDepth 8000 in
theorem cz_Ca_goesAhead {w : Int} {σ : gM} {v1 v2 : Int} : Cz w (F_Ca_goesAhead σ v1 v2) (F_Ca_goesAhead (up w σ) v1 v2) := by
  unfold F_Ca_goesAhead
  repeat' first
    | with_reducible exact cz_some
    | with_reducible refine cz_ite ?_ ?_
    | with_reducible refine cz_ga fun _ => ?_
    | with_reducible refine cz_gi ?_
    | with_reducible refine cz_gd ?_
    | with_reducible refine cz_gb ?_
    | with_reducible refine cz_gv fun _ => ?_
    | with_reducible refine cz_gw (by decide) fun _ => ?_
    | with_reducible refine cz_gwb (by decide) fun _ => ?_
    | with_reducible refine cz_gp (by decide) fun _ => ?_
    | with_reducible refine cz_gpb (by decide) fun _ => ?_
    | (simp (disch := decide) only [up_k])
    | unfold j_Ca_goesAhead_71
    | unfold j_Ca_goesAhead_60
    | unfold j_Ca_goesAhead_29
set_option maxRecDepth 8000 in
theorem cz_Ca_leavingFor {w : Int} {σ : gM} {v1 : Int} : Cz w (F_Ca_leavingFor σ v1) (F_Ca_leavingFor (up w σ) v1) := by
  unfold F_Ca_leavingFor
  repeat' first
    | with_reducible exact cz_some
    | with_reducible refine cz_ite ?_ ?_
    | with_reducible refine cz_ga fun _ => ?_
    | with_reducible refine cz_gi ?_
    | with_reducible refine cz_gd ?_
    | with_reducible refine cz_gb ?_
    | with_reducible refine cz_gv fun _ => ?_
    | with_reducible refine cz_gw (by decide) fun _ => ?_
    | with_reducible refine cz_gwb (by decide) fun _ => ?_
    | with_reducible refine cz_gp (by decide) fun _ => ?_
    | with_reducible refine cz_gpb (by decide) fun _ => ?_
    | with_reducible refine cz_gk (cz_Ca_goesAhead) fun _ _ => ?_
    | with_reducible exact cz_Ca_goesAhead
    | with_reducible refine cz_gl3 (fun rec hr s a b c => ?_) _
    | with_reducible exact cz_rec3 (by assumption)
    | (simp (disch := decide) only [up_k])
    | unfold j_Ca_leavingFor_85
    | unfold j_Ca_leavingFor_81
    | unfold l_Ca_leavingFor_24
    | unfold j_Ca_leavingFor_107
set_option maxRecDepth 8000 in
theorem cz_Ce_openFor {w : Int} {σ : gM} {v1 : Int} : Cz w (F_Ce_openFor σ v1) (F_Ce_openFor (up w σ) v1) := by
  unfold F_Ce_openFor
  repeat' first
    | with_reducible exact cz_some
    | with_reducible refine cz_ite ?_ ?_
    | with_reducible refine cz_ga fun _ => ?_
    | with_reducible refine cz_gi ?_
    | with_reducible refine cz_gd ?_
    | with_reducible refine cz_gb ?_
    | with_reducible refine cz_gv fun _ => ?_
    | with_reducible refine cz_gw (by decide) fun _ => ?_
    | with_reducible refine cz_gwb (by decide) fun _ => ?_
    | with_reducible refine cz_gp (by decide) fun _ => ?_
    | with_reducible refine cz_gpb (by decide) fun _ => ?_
    | with_reducible refine cz_gl1 (fun rec hr s a => ?_) _
    | with_reducible exact cz_rec1 (by assumption)
    | (simp (disch := decide) only [up_k])
    | unfold j_Ce_openFor_138
    | unfold l_Ce_openFor_57
    | unfold j_Ce_openFor_36
set_option maxRecDepth 8000 in
theorem cz_Ce_righted {w : Int} {σ : gM} {v0 : Int} : Cz w (F_Ce_righted σ v0) (F_Ce_righted (up w σ) v0) := by
  unfold F_Ce_righted
  repeat' first
    | with_reducible exact cz_some
    | with_reducible refine cz_ite ?_ ?_
    | with_reducible refine cz_ga fun _ => ?_
    | with_reducible refine cz_gi ?_
    | with_reducible refine cz_gd ?_
    | with_reducible refine cz_gb ?_
    | with_reducible refine cz_gv fun _ => ?_
    | with_reducible refine cz_gw (by decide) fun _ => ?_
    | with_reducible refine cz_gwb (by decide) fun _ => ?_
    | with_reducible refine cz_gp (by decide) fun _ => ?_
    | with_reducible refine cz_gpb (by decide) fun _ => ?_
    | with_reducible refine cz_gl3 (fun rec hr s a b c => ?_) _
    | with_reducible exact cz_rec3 (by assumption)
    | (simp (disch := decide) only [up_k])
    | unfold j_Ce_righted_33
    | unfold l_Ce_righted_8
    | unfold j_Ce_righted_70
    | unfold j_Ce_righted_53
set_option maxRecDepth 8000 in
theorem cz_Ce_valueOf {w : Int} {σ : gM} {v0 : Int} : Cz w (F_Ce_valueOf σ v0) (F_Ce_valueOf (up w σ) v0) := by
  unfold F_Ce_valueOf
  repeat' first
    | with_reducible exact cz_some
    | with_reducible refine cz_ite ?_ ?_
    | with_reducible refine cz_ga fun _ => ?_
    | with_reducible refine cz_gi ?_
    | with_reducible refine cz_gd ?_
    | with_reducible refine cz_gb ?_
    | with_reducible refine cz_gv fun _ => ?_
    | with_reducible refine cz_gw (by decide) fun _ => ?_
    | with_reducible refine cz_gwb (by decide) fun _ => ?_
    | with_reducible refine cz_gp (by decide) fun _ => ?_
    | with_reducible refine cz_gpb (by decide) fun _ => ?_
    | (simp (disch := decide) only [up_k])
set_option maxRecDepth 8000 in
theorem cz_Ce_read {w : Int} {σ : gM} {v1 : Int} : Cz w (F_Ce_read σ v1) (F_Ce_read (up w σ) v1) := by
  unfold F_Ce_read
  repeat' first
    | with_reducible exact cz_some
    | with_reducible refine cz_ite ?_ ?_
    | with_reducible refine cz_ga fun _ => ?_
    | with_reducible refine cz_gi ?_
    | with_reducible refine cz_gd ?_
    | with_reducible refine cz_gb ?_
    | with_reducible refine cz_gv fun _ => ?_
    | with_reducible refine cz_gw (by decide) fun _ => ?_
    | with_reducible refine cz_gwb (by decide) fun _ => ?_
    | with_reducible refine cz_gp (by decide) fun _ => ?_
    | with_reducible refine cz_gpb (by decide) fun _ => ?_
    | with_reducible refine cz_gk (cz_Ce_righted) fun _ _ => ?_
    | with_reducible exact cz_Ce_righted
    | with_reducible refine cz_gk (cz_Le_add (by first | decide | assumption)) fun _ _ => ?_
    | with_reducible exact cz_Le_add (by first | decide | assumption)
    | with_reducible refine cz_gk (cz_Ce_valueOf) fun _ _ => ?_
    | with_reducible exact cz_Ce_valueOf
    | (simp (disch := decide) only [up_k])
    | unfold j_Ce_read_46
set_option maxRecDepth 8000 in
theorem cz_Ce_coded {w : Int} {σ : gM} {v0 : Int} : Cz w (F_Ce_coded σ v0) (F_Ce_coded (up w σ) v0) := by
  unfold F_Ce_coded
  repeat' first
    | with_reducible exact cz_some
    | with_reducible refine cz_ite ?_ ?_
    | with_reducible refine cz_ga fun _ => ?_
    | with_reducible refine cz_gi ?_
    | with_reducible refine cz_gd ?_
    | with_reducible refine cz_gb ?_
    | with_reducible refine cz_gv fun _ => ?_
    | with_reducible refine cz_gw (by decide) fun _ => ?_
    | with_reducible refine cz_gwb (by decide) fun _ => ?_
    | with_reducible refine cz_gp (by decide) fun _ => ?_
    | with_reducible refine cz_gpb (by decide) fun _ => ?_
    | with_reducible refine cz_gl3 (fun rec hr s a b c => ?_) _
    | with_reducible exact cz_rec3 (by assumption)
    | with_reducible refine cz_gl4 (fun rec hr s a b c d => ?_) _
    | with_reducible exact cz_rec4 (by assumption)
    | (simp (disch := decide) only [up_k])
    | unfold j_Ce_coded_52
    | unfold l_Ce_coded_9
    | unfold j_Ce_coded_92
    | unfold l_Ce_coded_61
set_option maxRecDepth 8000 in
theorem cz_Ca_store {w : Int} {σ : gM} {v1 v2 : Int} : Cz w (F_Ca_store σ v1 v2) (F_Ca_store (up w σ) v1 v2) := by
  unfold F_Ca_store
  repeat' first
    | with_reducible exact cz_some
    | with_reducible refine cz_ite ?_ ?_
    | with_reducible refine cz_ga fun _ => ?_
    | with_reducible refine cz_gi ?_
    | with_reducible refine cz_gd ?_
    | with_reducible refine cz_gb ?_
    | with_reducible refine cz_gv fun _ => ?_
    | with_reducible refine cz_gw (by decide) fun _ => ?_
    | with_reducible refine cz_gwb (by decide) fun _ => ?_
    | with_reducible refine cz_gp (by decide) fun _ => ?_
    | with_reducible refine cz_gpb (by decide) fun _ => ?_
    | with_reducible refine cz_gk (cz_Ce_openFor) fun _ _ => ?_
    | with_reducible exact cz_Ce_openFor
    | with_reducible refine cz_gk (cz_Le_spend) fun _ _ => ?_
    | with_reducible exact cz_Le_spend
    | with_reducible refine cz_gk (cz_Ce_coded) fun _ _ => ?_
    | with_reducible exact cz_Ce_coded
    | with_reducible refine cz_gl1 (fun rec hr s a => ?_) _
    | with_reducible exact cz_rec1 (by assumption)
    | (simp (disch := decide) only [up_k])
    | unfold j_Ca_store_86
    | unfold l_Ca_store_38
    | unfold j_Ca_store_35
set_option maxRecDepth 8000 in
theorem cz_Ca_miss {w : Int} {σ : gM} {v1 : Int} : Cz w (F_Ca_miss σ v1) (F_Ca_miss (up w σ) v1) := by
  unfold F_Ca_miss
  repeat' first
    | with_reducible exact cz_some
    | with_reducible refine cz_ite ?_ ?_
    | with_reducible refine cz_ga fun _ => ?_
    | with_reducible refine cz_gi ?_
    | with_reducible refine cz_gd ?_
    | with_reducible refine cz_gb ?_
    | with_reducible refine cz_gv fun _ => ?_
    | with_reducible refine cz_gw (by decide) fun _ => ?_
    | with_reducible refine cz_gwb (by decide) fun _ => ?_
    | with_reducible refine cz_gp (by decide) fun _ => ?_
    | with_reducible refine cz_gpb (by decide) fun _ => ?_
    | with_reducible refine cz_gk (cz_Ca_twinOf) fun _ _ => ?_
    | with_reducible exact cz_Ca_twinOf
    | with_reducible refine cz_gkP cz_Ca_causeOf rv_causeOf fun _ _ _ => ?_
    | with_reducible refine cz_gk (cz_Le_add (by first | decide | assumption)) fun _ _ => ?_
    | with_reducible exact cz_Le_add (by first | decide | assumption)
    | with_reducible refine cz_gk (cz_Ca_store) fun _ _ => ?_
    | with_reducible exact cz_Ca_store
    | with_reducible refine cz_gk (cz_Ce_read) fun _ _ => ?_
    | with_reducible exact cz_Ce_read
    | with_reducible refine cz_gk (cz_Ce_openFor) fun _ _ => ?_
    | with_reducible exact cz_Ce_openFor
    | with_reducible refine cz_gk (cz_Le_spend) fun _ _ => ?_
    | with_reducible exact cz_Le_spend
    | with_reducible refine cz_gk (cz_Ca_leavingFor) fun _ _ => ?_
    | with_reducible exact cz_Ca_leavingFor
    | with_reducible refine cz_gl1 (fun rec hr s a => ?_) _
    | with_reducible exact cz_rec1 (by assumption)
    | (simp (disch := decide) only [up_k])
    | unfold l_Ca_miss_123
    | unfold j_Ca_miss_94
    | unfold j_Ca_miss_86
    | unfold j_Ca_miss_53
set_option maxRecDepth 8000 in
theorem cz_Ca_ask {w : Int} {σ : gM} {v1 v2 : Int} : Cz w (F_Ca_ask σ v1 v2) (F_Ca_ask (up w σ) v1 v2) := by
  unfold F_Ca_ask
  repeat' first
    | with_reducible exact cz_some
    | with_reducible refine cz_ite ?_ ?_
    | with_reducible refine cz_ga fun _ => ?_
    | with_reducible refine cz_gi ?_
    | with_reducible refine cz_gd ?_
    | with_reducible refine cz_gb ?_
    | with_reducible refine cz_gv fun _ => ?_
    | with_reducible refine cz_gw (by decide) fun _ => ?_
    | with_reducible refine cz_gwb (by decide) fun _ => ?_
    | with_reducible refine cz_gp (by decide) fun _ => ?_
    | with_reducible refine cz_gpb (by decide) fun _ => ?_
    | with_reducible refine cz_gk (cz_Le_add (by first | decide | assumption)) fun _ _ => ?_
    | with_reducible exact cz_Le_add (by first | decide | assumption)
    | with_reducible refine cz_gk (cz_Ca_miss) fun _ _ => ?_
    | with_reducible exact cz_Ca_miss
    | with_reducible refine cz_gk (cz_Le_spend) fun _ _ => ?_
    | with_reducible exact cz_Le_spend
    | with_reducible refine cz_gk (cz_Ca_joinPlay) fun _ _ => ?_
    | with_reducible exact cz_Ca_joinPlay
    | (simp (disch := decide) only [up_k])
    | unfold j_Ca_ask_57
    | unfold j_Ca_ask_33
set_option maxRecDepth 8000 in
theorem cz_Ca_change {w : Int} {σ : gM} {v1 v2 v3 : Int} : Cz w (F_Ca_change σ v1 v2 v3) (F_Ca_change (up w σ) v1 v2 v3) := by
  unfold F_Ca_change
  repeat' first
    | with_reducible exact cz_some
    | with_reducible refine cz_ite ?_ ?_
    | with_reducible refine cz_ga fun _ => ?_
    | with_reducible refine cz_gi ?_
    | with_reducible refine cz_gd ?_
    | with_reducible refine cz_gb ?_
    | with_reducible refine cz_gv fun _ => ?_
    | with_reducible refine cz_gw (by decide) fun _ => ?_
    | with_reducible refine cz_gwb (by decide) fun _ => ?_
    | with_reducible refine cz_gp (by decide) fun _ => ?_
    | with_reducible refine cz_gpb (by decide) fun _ => ?_
    | with_reducible refine cz_gk (cz_Ca_ask) fun _ _ => ?_
    | with_reducible exact cz_Ca_ask
    | with_reducible refine cz_gk (cz_Ca_twinOf) fun _ _ => ?_
    | with_reducible exact cz_Ca_twinOf
    | with_reducible refine cz_gk (cz_Ce_openFor) fun _ _ => ?_
    | with_reducible exact cz_Ce_openFor
    | with_reducible refine cz_gk (cz_Le_spend) fun _ _ => ?_
    | with_reducible exact cz_Le_spend
    | with_reducible refine cz_gk (cz_Ce_coded) fun _ _ => ?_
    | with_reducible exact cz_Ce_coded
    | (simp (disch := decide) only [up_k])
    | unfold j_Ca_change_55
set_option maxRecDepth 8000 in
theorem cz_Ca_dismiss {w : Int} {σ : gM} {v1 v2 v3 : Int} : Cz w (F_Ca_dismiss σ v1 v2 v3) (F_Ca_dismiss (up w σ) v1 v2 v3) := by
  unfold F_Ca_dismiss
  repeat' first
    | with_reducible exact cz_some
    | with_reducible refine cz_ite ?_ ?_
    | with_reducible refine cz_ga fun _ => ?_
    | with_reducible refine cz_gi ?_
    | with_reducible refine cz_gd ?_
    | with_reducible refine cz_gb ?_
    | with_reducible refine cz_gv fun _ => ?_
    | with_reducible refine cz_gw (by decide) fun _ => ?_
    | with_reducible refine cz_gwb (by decide) fun _ => ?_
    | with_reducible refine cz_gp (by decide) fun _ => ?_
    | with_reducible refine cz_gpb (by decide) fun _ => ?_
    | with_reducible refine cz_gk (cz_Ca_store) fun _ _ => ?_
    | with_reducible exact cz_Ca_store
    | with_reducible refine cz_gl1 (fun rec hr s a => ?_) _
    | with_reducible exact cz_rec1 (by assumption)
    | (simp (disch := decide) only [up_k])
    | unfold j_Ca_dismiss_93
    | unfold j_Ca_dismiss_48
    | unfold l_Ca_dismiss_12
    | unfold l_Ca_dismiss_3
set_option maxRecDepth 8000 in
theorem cz_Ru_pageAt {w : Int} {σ : gM} {v1 : Int} : Cz w (F_Ru_pageAt σ v1) (F_Ru_pageAt (up w σ) v1) := by
  unfold F_Ru_pageAt
  repeat' first
    | with_reducible exact cz_some
    | with_reducible refine cz_ite ?_ ?_
    | with_reducible refine cz_ga fun _ => ?_
    | with_reducible refine cz_gi ?_
    | with_reducible refine cz_gd ?_
    | with_reducible refine cz_gb ?_
    | with_reducible refine cz_gv fun _ => ?_
    | with_reducible refine cz_gw (by decide) fun _ => ?_
    | with_reducible refine cz_gwb (by decide) fun _ => ?_
    | with_reducible refine cz_gp (by decide) fun _ => ?_
    | with_reducible refine cz_gpb (by decide) fun _ => ?_
    | (simp (disch := decide) only [up_k])
set_option maxRecDepth 8000 in
theorem cz_Ru_append {w : Int} {σ : gM} {v1 : Int} : Cz w (F_Ru_append σ v1) (F_Ru_append (up w σ) v1) := by
  unfold F_Ru_append
  repeat' first
    | with_reducible exact cz_some
    | with_reducible refine cz_ite ?_ ?_
    | with_reducible refine cz_ga fun _ => ?_
    | with_reducible refine cz_gi ?_
    | with_reducible refine cz_gd ?_
    | with_reducible refine cz_gb ?_
    | with_reducible refine cz_gv fun _ => ?_
    | with_reducible refine cz_gw (by decide) fun _ => ?_
    | with_reducible refine cz_gwb (by decide) fun _ => ?_
    | with_reducible refine cz_gp (by decide) fun _ => ?_
    | with_reducible refine cz_gpb (by decide) fun _ => ?_
    | with_reducible refine cz_gk (cz_Ru_pageAt) fun _ _ => ?_
    | with_reducible exact cz_Ru_pageAt
    | (simp (disch := decide) only [up_k])
    | unfold j_Ru_append_75
    | unfold j_Ru_append_22
set_option maxRecDepth 8000 in
theorem cz_Me_handStops {w : Int} {σ : gM} : Cz w (F_Me_handStops σ) (F_Me_handStops (up w σ)) := by
  unfold F_Me_handStops
  repeat' first
    | with_reducible exact cz_some
    | with_reducible refine cz_ite ?_ ?_
    | with_reducible refine cz_ga fun _ => ?_
    | with_reducible refine cz_gi ?_
    | with_reducible refine cz_gd ?_
    | with_reducible refine cz_gb ?_
    | with_reducible refine cz_gv fun _ => ?_
    | with_reducible refine cz_gw (by decide) fun _ => ?_
    | with_reducible refine cz_gwb (by decide) fun _ => ?_
    | with_reducible refine cz_gp (by decide) fun _ => ?_
    | with_reducible refine cz_gpb (by decide) fun _ => ?_
    | with_reducible refine cz_gl2 (fun rec hr s a b => ?_) _
    | with_reducible exact cz_rec2 (by assumption)
    | (simp (disch := decide) only [up_k])
    | unfold j_Me_handStops_38_17
    | unfold l_Me_handStops_7
    | unfold j_Me_handStops_66
set_option maxRecDepth 8000 in
theorem cz_Me_earliest_r25 {w : Int} {σ : gM} : Cz w (F_Me_earliest_r25 σ) (F_Me_earliest_r25 (up w σ)) := by
  unfold F_Me_earliest_r25
  repeat' first
    | with_reducible exact cz_some
    | with_reducible refine cz_ite ?_ ?_
    | with_reducible refine cz_ga fun _ => ?_
    | with_reducible refine cz_gi ?_
    | with_reducible refine cz_gd ?_
    | with_reducible refine cz_gb ?_
    | with_reducible refine cz_gv fun _ => ?_
    | with_reducible refine cz_gw (by decide) fun _ => ?_
    | with_reducible refine cz_gwb (by decide) fun _ => ?_
    | with_reducible refine cz_gp (by decide) fun _ => ?_
    | with_reducible refine cz_gpb (by decide) fun _ => ?_
    | with_reducible refine cz_gl2 (fun rec hr s a b => ?_) _
    | with_reducible exact cz_rec2 (by assumption)
    | (simp (disch := decide) only [up_k])
    | unfold j_Me_earliest_r25_23_25
    | unfold l_Me_earliest_r25_4_25
set_option maxRecDepth 8000 in
theorem cz_Me_earliest_r24 {w : Int} {σ : gM} : Cz w (F_Me_earliest_r24 σ) (F_Me_earliest_r24 (up w σ)) := by
  unfold F_Me_earliest_r24
  repeat' first
    | with_reducible exact cz_some
    | with_reducible refine cz_ite ?_ ?_
    | with_reducible refine cz_ga fun _ => ?_
    | with_reducible refine cz_gi ?_
    | with_reducible refine cz_gd ?_
    | with_reducible refine cz_gb ?_
    | with_reducible refine cz_gv fun _ => ?_
    | with_reducible refine cz_gw (by decide) fun _ => ?_
    | with_reducible refine cz_gwb (by decide) fun _ => ?_
    | with_reducible refine cz_gp (by decide) fun _ => ?_
    | with_reducible refine cz_gpb (by decide) fun _ => ?_
    | with_reducible refine cz_gl2 (fun rec hr s a b => ?_) _
    | with_reducible exact cz_rec2 (by assumption)
    | (simp (disch := decide) only [up_k])
    | unfold j_Me_earliest_r24_23_24
    | unfold l_Me_earliest_r24_4_24
set_option maxRecDepth 8000 in
theorem cz_Me_frameToFill {w : Int} {σ : gM} : Cz w (F_Me_frameToFill σ) (F_Me_frameToFill (up w σ)) := by
  unfold F_Me_frameToFill
  repeat' first
    | with_reducible exact cz_some
    | with_reducible refine cz_ite ?_ ?_
    | with_reducible refine cz_ga fun _ => ?_
    | with_reducible refine cz_gi ?_
    | with_reducible refine cz_gd ?_
    | with_reducible refine cz_gb ?_
    | with_reducible refine cz_gv fun _ => ?_
    | with_reducible refine cz_gw (by decide) fun _ => ?_
    | with_reducible refine cz_gwb (by decide) fun _ => ?_
    | with_reducible refine cz_gp (by decide) fun _ => ?_
    | with_reducible refine cz_gpb (by decide) fun _ => ?_
    | with_reducible refine cz_gk (cz_Me_earliest_r24) fun _ _ => ?_
    | with_reducible exact cz_Me_earliest_r24
    | with_reducible refine cz_gk (cz_Me_earliest_r25) fun _ _ => ?_
    | with_reducible exact cz_Me_earliest_r25
    | with_reducible refine cz_gk (cz_Me_handStops) fun _ _ => ?_
    | with_reducible exact cz_Me_handStops
    | with_reducible refine cz_gl1 (fun rec hr s a => ?_) _
    | with_reducible exact cz_rec1 (by assumption)
    | (simp (disch := decide) only [up_k])
    | unfold l_Me_frameToFill_2
set_option maxRecDepth 8000 in
theorem cz_Me_arrive {w : Int} {σ : gM} {v1 v2 : Int} : Cz w (F_Me_arrive σ v1 v2) (F_Me_arrive (up w σ) v1 v2) := by
  unfold F_Me_arrive
  repeat' first
    | with_reducible exact cz_some
    | with_reducible refine cz_ite ?_ ?_
    | with_reducible refine cz_ga fun _ => ?_
    | with_reducible refine cz_gi ?_
    | with_reducible refine cz_gd ?_
    | with_reducible refine cz_gb ?_
    | with_reducible refine cz_gv fun _ => ?_
    | with_reducible refine cz_gw (by decide) fun _ => ?_
    | with_reducible refine cz_gwb (by decide) fun _ => ?_
    | with_reducible refine cz_gp (by decide) fun _ => ?_
    | with_reducible refine cz_gpb (by decide) fun _ => ?_
    | with_reducible refine cz_gk (cz_Ce_coded) fun _ _ => ?_
    | with_reducible exact cz_Ce_coded
    | with_reducible refine cz_gl1 (fun rec hr s a => ?_) _
    | with_reducible exact cz_rec1 (by assumption)
    | (simp (disch := decide) only [up_k])
    | unfold j_Me_arrive_55_6
    | unfold l_Me_arrive_2
set_option maxRecDepth 8000 in
theorem cz_Me_leave {w : Int} {σ : gM} {v1 v2 : Int} : Cz w (F_Me_leave σ v1 v2) (F_Me_leave (up w σ) v1 v2) := by
  unfold F_Me_leave
  repeat' first
    | with_reducible exact cz_some
    | with_reducible refine cz_ite ?_ ?_
    | with_reducible refine cz_ga fun _ => ?_
    | with_reducible refine cz_gi ?_
    | with_reducible refine cz_gd ?_
    | with_reducible refine cz_gb ?_
    | with_reducible refine cz_gv fun _ => ?_
    | with_reducible refine cz_gw (by decide) fun _ => ?_
    | with_reducible refine cz_gwb (by decide) fun _ => ?_
    | with_reducible refine cz_gp (by decide) fun _ => ?_
    | with_reducible refine cz_gpb (by decide) fun _ => ?_
    | with_reducible refine cz_gk (cz_Ca_dismiss) fun _ _ => ?_
    | with_reducible exact cz_Ca_dismiss
    | with_reducible refine cz_gk (cz_Le_spend) fun _ _ => ?_
    | with_reducible exact cz_Le_spend
    | with_reducible refine cz_gk (cz_Ce_read) fun _ _ => ?_
    | with_reducible exact cz_Ce_read
    | with_reducible refine cz_gk (cz_Le_add (by first | decide | assumption)) fun _ _ => ?_
    | with_reducible exact cz_Le_add (by first | decide | assumption)
    | with_reducible refine cz_gl1 (fun rec hr s a => ?_) _
    | with_reducible exact cz_rec1 (by assumption)
    | (simp (disch := decide) only [up_k])
    | unfold l_Me_leave_47
    | unfold j_Me_leave_34
set_option maxRecDepth 8000 in
theorem cz_Me_touch {w : Int} {σ : gM} {v1 : Int} : Cz w (F_Me_touch σ v1) (F_Me_touch (up w σ) v1) := by
  unfold F_Me_touch
  repeat' first
    | with_reducible exact cz_some
    | with_reducible refine cz_ite ?_ ?_
    | with_reducible refine cz_ga fun _ => ?_
    | with_reducible refine cz_gi ?_
    | with_reducible refine cz_gd ?_
    | with_reducible refine cz_gb ?_
    | with_reducible refine cz_gv fun _ => ?_
    | with_reducible refine cz_gw (by decide) fun _ => ?_
    | with_reducible refine cz_gwb (by decide) fun _ => ?_
    | with_reducible refine cz_gp (by decide) fun _ => ?_
    | with_reducible refine cz_gpb (by decide) fun _ => ?_
    | with_reducible refine cz_gk (cz_Le_add (by first | decide | assumption)) fun _ _ => ?_
    | with_reducible exact cz_Le_add (by first | decide | assumption)
    | with_reducible refine cz_gk (cz_Le_spend) fun _ _ => ?_
    | with_reducible exact cz_Le_spend
    | with_reducible refine cz_gk (cz_Me_frameToFill) fun _ _ => ?_
    | with_reducible exact cz_Me_frameToFill
    | with_reducible refine cz_gk (cz_Me_leave) fun _ _ => ?_
    | with_reducible exact cz_Me_leave
    | with_reducible refine cz_gk (cz_Ru_append) fun _ _ => ?_
    | with_reducible exact cz_Ru_append
    | with_reducible refine cz_gk (cz_Me_arrive) fun _ _ => ?_
    | with_reducible exact cz_Me_arrive
    | (simp (disch := decide) only [up_k])
    | unfold j_Me_touch_78
    | unfold j_Me_touch_72
