/-! ===== the graph: partitions, the closure of a set of edges, what the two programs compute of it ===== -/
noncomputable def gp_D (p : Prop) : Bool := @decide p (Classical.propDecidable p)
theorem gp_D_t {p : Prop} : gp_D p = true ↔ p := @decide_eq_true_iff p (Classical.propDecidable p)
theorem gp_D_f {p : Prop} : gp_D p = false ↔ ¬ p := @decide_eq_false_iff_not p (Classical.propDecidable p)
theorem gp_D_e {p q : Prop} (h : p ↔ q) : gp_D p = gp_D q := by rw [propext h]
def gp_mg (p : Nat → Nat) (a b : Nat) : Nat → Nat := fun v => if p v = p b then p a else p v
def gp_pt (A B : Nat → Nat) (S : Nat → Bool) : Nat → Nat → Nat
  | 0 => fun v => v
  | k + 1 => if S k = true then gp_mg (gp_pt A B S k) (A k) (B k) else gp_pt A B S k
def gp_ck (A B : Nat → Nat) (S : Nat → Bool) (k u v : Nat) : Prop :=
  ∀ f : Nat → Nat, (∀ e, e < k → S e = true → f (A e) = f (B e)) → f u = f v
def gp_cl (A B : Nat → Nat) (S : Nat → Bool) (e : Nat) : Prop := gp_ck A B S 10 (A e) (B e)
theorem gp_mg_eq {p : Nat → Nat} {a b u v : Nat} (h : p u = p v) : gp_mg p a b u = gp_mg p a b v := by
  unfold gp_mg; rw [h]
theorem gp_mg_ab {p : Nat → Nat} {a b : Nat} : gp_mg p a b a = gp_mg p a b b := by
  unfold gp_mg
  by_cases h : p a = p b
  · rw [if_pos h, if_pos rfl]
  · rw [if_neg h, if_pos rfl]
theorem gp_mg_id {p : Nat → Nat} {a b : Nat} (h : p a = p b) (v : Nat) : gp_mg p a b v = p v := by
  unfold gp_mg
  by_cases hv : p v = p b
  · rw [if_pos hv, h, hv]
  · rw [if_neg hv]
theorem gp_mg_lt {p : Nat → Nat} {a b : Nat} (ha : a < 6) (h : ∀ v, v < 6 → p v < 6) {v : Nat} (hv : v < 6) : gp_mg p a b v < 6 := by
  unfold gp_mg
  by_cases hx : p v = p b
  · rw [if_pos hx]; exact h a ha
  · rw [if_neg hx]; exact h v hv
section
variable {A B : Nat → Nat}
theorem gp_pt_lt (hA : ∀ e, A e < 6) (S : Nat → Bool) : ∀ k v, v < 6 → gp_pt A B S k v < 6 := by
  intro k
  induction k with
  | zero => intro v hv; exact hv
  | succ k ih =>
    intro v hv
    rw [gp_pt]
    by_cases h : S k = true
    · rw [if_pos h]; exact gp_mg_lt (hA k) ih hv
    · rw [if_neg h]; exact ih v hv
theorem gp_pt_edge (S : Nat → Bool) : ∀ k e, e < k → S e = true → gp_pt A B S k (A e) = gp_pt A B S k (B e) := by
  intro k
  induction k with
  | zero => intro e he; omega
  | succ k ih =>
    intro e he hs
    rw [gp_pt]
    by_cases hek : e = k
    · subst hek; rw [if_pos hs]; exact gp_mg_ab
    · have := ih e (by omega) hs
      by_cases h : S k = true
      · rw [if_pos h]; exact gp_mg_eq this
      · rw [if_neg h]; exact this
theorem gp_pt_rep (S : Nat → Bool) (f : Nat → Nat) : ∀ k, (∀ e, e < k → S e = true → f (A e) = f (B e)) → ∀ v, f (gp_pt A B S k v) = f v := by
  intro k
  induction k with
  | zero => intro _ v; rfl
  | succ k ih =>
    intro h v
    have ih := ih (fun e he => h e (by omega))
    rw [gp_pt]
    by_cases hs : S k = true
    · rw [if_pos hs]
      unfold gp_mg
      by_cases hv : gp_pt A B S k v = gp_pt A B S k (B k)
      · rw [if_pos hv, ih, h k (by omega) hs, ← ih (B k), ← hv, ih]
      · rw [if_neg hv, ih]
    · rw [if_neg hs, ih]
theorem gp_pt_iff (S : Nat → Bool) (k u v : Nat) : gp_pt A B S k u = gp_pt A B S k v ↔ gp_ck A B S k u v := by
  constructor
  · intro h f hf
    rw [← gp_pt_rep S f k hf u, ← gp_pt_rep S f k hf v, h]
  · intro h
    exact h _ (fun e he hs => gp_pt_edge S k e he hs)
theorem gp_ax : mt_ax (gp_cl A B) := by
  refine ⟨?_, ?_, ?_⟩
  · intro S T h e hc f hf
    exact hc f (fun x hx hs => h x hx hs f hf)
  · intro S e he hs f hf
    exact hf e he hs
  · intro S e g he hg hc hn f hf
    have hfS : ∀ x, x < 10 → S x = true → f (A x) = f (B x) := fun x hx hs => hf x hx (st_ins_t.mpr (Or.inl hs))
    have hfe : f (A e) = f (B e) := hf e he (st_ins_t.mpr (Or.inr rfl))
    have hr := gp_pt_rep S f 10 hfS
    have hne : gp_pt A B S 10 (A e) ≠ gp_pt A B S 10 (B e) := fun z => hn ((gp_pt_iff S 10 _ _).mp z)
    have hm := hc (gp_mg (gp_pt A B S 10) (A g) (B g)) (by
      intro x hx hs
      rw [st_ins_t] at hs
      rcases hs with hs | hs
      · exact gp_mg_eq (gp_pt_edge S 10 x hx hs)
      · rw [hs]; exact gp_mg_ab)
    unfold gp_mg at hm
    by_cases h1 : gp_pt A B S 10 (A e) = gp_pt A B S 10 (B g)
    · have h2 : ¬ gp_pt A B S 10 (B e) = gp_pt A B S 10 (B g) := fun z => hne (h1.trans z.symm)
      rw [if_pos h1, if_neg h2] at hm
      rw [← hr (A g), ← hr (B g), hm, ← h1, hr, hr, hfe]
    · by_cases h2 : gp_pt A B S 10 (B e) = gp_pt A B S 10 (B g)
      · rw [if_neg h1, if_pos h2] at hm
        rw [← hr (A g), ← hr (B g), ← hm, ← h2, hr, hr, hfe]
      · rw [if_neg h1, if_neg h2] at hm
        exact absurd hm hne
theorem gp_ck_lo (S : Nat → Bool) {k : Nat} (hk : k ≤ 10) (u v : Nat) : gp_ck A B S k u v ↔ gp_ck A B (fun x => S x && decide (x < k)) 10 u v := by
  constructor
  · intro h f hf
    refine h f (fun e he hs => hf e (by omega) ?_)
    simp [hs, he]
  · intro h f hf
    refine h f (fun e he hs => ?_)
    simp at hs
    exact hf e hs.2 hs.1
theorem gp_ck_congr {S T : Nat → Bool} (h : ∀ e, e < 10 → S e = T e) (u v : Nat) : gp_ck A B S 10 u v ↔ gp_ck A B T 10 u v := by
  constructor
  · intro hc f hf
    exact hc f (fun e he hs => hf e he (by rw [← h e he]; exact hs))
  · intro hc f hf
    exact hc f (fun e he hs => hf e he (by rw [h e he]; exact hs))
/-- no edge of the set closes a ring with the edges ahead of it -/
def gp_ok (A B : Nat → Nat) (S : Nat → Bool) : Nat → Bool
  | 0 => true
  | k + 1 => gp_ok A B S k && (!(S k) || !(decide (gp_pt A B S k (A k) = gp_pt A B S k (B k))))
theorem gp_ok_iff (S : Nat → Bool) : ∀ k, gp_ok A B S k = true ↔ ∀ e, e < k → S e = true → ¬ gp_ck A B S e (A e) (B e) := by
  intro k
  induction k with
  | zero => exact ⟨fun _ e he => absurd he (by omega), fun _ => rfl⟩
  | succ k ih =>
    rw [gp_ok, Bool.and_eq_true, ih]
    constructor
    · intro h e he hs hc
      by_cases hek : e = k
      · subst hek
        have h2 := h.2
        rw [hs, decide_eq_true ((gp_pt_iff S e _ _).mpr hc)] at h2
        exact absurd h2 (by decide)
      · exact h.1 e (by omega) hs hc
    · intro h
      refine ⟨fun e he => h e (by omega), ?_⟩
      cases hs : S k
      · rfl
      · have := h k (by omega) hs
        rw [← gp_pt_iff] at this
        rw [decide_eq_false this]; rfl
theorem gp_ok_ind (S : Nat → Bool) : gp_ok A B S 10 = true ↔ mt_ind (gp_cl A B) S := by
  rw [gp_ok_iff]
  constructor
  · intro h
    refine mt_seq gp_ax (o := fun x => x) (N := 10) (fun e he => he) (fun e g _ _ z => z) ?_
    intro e he hs hc
    exact h e he hs ((gp_ck_lo S (by omega) _ _).mpr hc)
  · intro h e he hs hc
    exact mt_seq' gp_ax (o := fun x => x) h he hs ((gp_ck_lo S (k := e) (by omega) _ _).mp hc)
end
/-- f goes before e when e weighs w -/
def gp_bf (C : Nat → Nat) (e w f : Nat) : Bool := !decide (f = e) && (decide (C f < w) || (decide (C f = w) && decide (f < e)))
def gp_S (C : Nat → Nat) (am e w : Nat) : Nat → Bool := fun f => am.testBit f && gp_bf C e w f
/-- e would stand in the greedy set of am if it weighed w -/
def gp_st (A B C : Nat → Nat) (am e w : Nat) : Bool := !decide (gp_pt A B (gp_S C am e w) 10 (A e) = gp_pt A B (gp_S C am e w) 10 (B e))
def gp_G (A B C : Nat → Nat) (am k : Nat) : Nat := tb_mk (fun e => am.testBit e && gp_st A B C am e (C e)) k
section
variable {A B C : Nat → Nat}
theorem gp_st_iff {am e w : Nat} : gp_st A B C am e w = true ↔ ¬ gp_cl A B (gp_S C am e w) e := by
  unfold gp_st gp_cl
  rw [Bool.not_eq_true', decide_eq_false_iff_not, gp_pt_iff]
theorem gp_bf_o {e f : Nat} (he : e < 10) (hf : f < 10) : gp_bf C e (C e) f = decide (ws_o C f < ws_o C e) := by
  unfold gp_bf ws_o
  rw [Bool.eq_iff_iff]
  by_cases h : f = e
  · subst h; simp
  · simp [h]; omega
theorem gp_S_lo {am e : Nat} (he : e < 10) : ∀ f, f < 10 → gp_S C am e (C e) f = st_lo am.testBit (ws_o C) e f := by
  intro f hf
  unfold gp_S st_lo
  rw [gp_bf_o he hf]
theorem gp_G_lt {am : Nat} : gp_G A B C am 10 < 1024 := tb_mk_lt _ 10 (Nat.le_refl _)
theorem gp_G_b {am e : Nat} (he : e < 10) : (gp_G A B C am 10).testBit e = (am.testBit e && gp_st A B C am e (C e)) := by
  rw [gp_G, tb_mk_b, decide_eq_true he, Bool.and_true]
theorem gp_G_gr (am : Nat) : mt_gr (gp_cl A B) am.testBit (ws_o C) (gp_G A B C am 10).testBit := by
  intro e he
  rw [gp_G_b he, Bool.and_eq_true, gp_st_iff]
  have : gp_cl A B (gp_S C am e (C e)) e ↔ gp_cl A B (st_lo am.testBit (ws_o C) e) e := gp_ck_congr (gp_S_lo he) _ _
  rw [this]
/-- basis of P, as a Bool -/
noncomputable def gp_bs (A B : Nat → Nat) (P s : Nat) : Bool := gp_D (mt_bas (gp_cl A B) P.testBit s.testBit)
theorem gp_bs_t {P s : Nat} : gp_bs A B P s = true ↔ mt_bas (gp_cl A B) P.testBit s.testBit := gp_D_t
theorem gp_bas_G (hC : ∀ e, e < 10 → C e ≤ 50) (P : Nat) : gp_bs A B P (gp_G A B C P 10) = true :=
  gp_bs_t.mpr (mt_gr_bas gp_ax (ws_o_b hC) (ws_o_inj C) (gp_G_gr P))
/-- X's test of a spanning forest -/
theorem gp_bs_X (hC : ∀ e, e < 10 → C e ≤ 50) (P s : Nat) :
    gp_bs A B P s = true ↔ (∀ e, e < 10 → s.testBit e = true → P.testBit e = true) ∧ ws_card s.testBit = ws_card (gp_G A B C P 10).testBit ∧ gp_ok A B s.testBit 10 = true := by
  rw [gp_bs_t, gp_ok_ind]
  constructor
  · intro h
    exact ⟨h.1, gy_card gp_ax hC (gp_G_gr P) h, h.2.1⟩
  · intro h
    exact gy_size gp_ax hC (gp_G_gr P) h.1 h.2.2 h.2.1
noncomputable def gp_fo (A B : Nat → Nat) (P s : Nat) : Bool := gp_D (∀ e, e < 10 → s.testBit e = true → P.testBit e = true) && gp_ok A B s.testBit 10
theorem gp_fo_t {P s : Nat} : gp_fo A B P s = true ↔ st_sub s.testBit P.testBit ∧ mt_ind (gp_cl A B) s.testBit := by
  unfold gp_fo
  rw [Bool.and_eq_true, gp_D_t, gp_ok_ind]
  exact Iff.rfl
theorem gp_or_ins {s e : Nat} : (s ||| 2 ^ e).testBit = st_ins s.testBit e := by
  funext i
  rw [tb_or_b]
  unfold st_ins
  congr 1
  exact decide_eq_decide.mpr ⟨fun h => h.symm, fun h => h.symm⟩
/-- Y's test of a spanning forest -/
theorem gp_bs_Y (P s : Nat) :
    gp_bs A B P s = true ↔ gp_fo A B P s = true ∧ ∀ e, e < 10 → s.testBit e = true ∨ gp_fo A B P (s ||| 2 ^ e) = false := by
  rw [gp_bs_t]
  constructor
  · intro h
    refine ⟨gp_fo_t.mpr ⟨h.1, h.2.1⟩, ?_⟩
    intro e he
    cases hs : s.testBit e
    · right
      cases hf : gp_fo A B P (s ||| 2 ^ e)
      · rfl
      · exfalso
        rw [gp_fo_t, gp_or_ins] at hf
        have hPe := hf.1 e he (st_ins_t.mpr (Or.inr rfl))
        apply hf.2 e he (st_ins_t.mpr (Or.inr rfl))
        refine mt_mono gp_ax ?_ (h.2.2 e he hPe)
        intro x hx hm
        rw [st_del_t, st_ins_t]
        refine ⟨Or.inl hm, ?_⟩
        intro hxe
        rw [hxe, hs] at hm
        exact absurd hm (by decide)
    · exact Or.inl rfl
  · intro h
    have h1 := gp_fo_t.mp h.1
    refine ⟨h1.1, h1.2, ?_⟩
    intro e he hp
    refine Classical.byContradiction fun hn => ?_
    rcases h.2 e he with hs | hf
    · exact hn (gp_ax.2.1 _ e he hs)
    · have : gp_fo A B P (s ||| 2 ^ e) = true := by
        rw [gp_fo_t, gp_or_ins]
        refine ⟨?_, mt_ind_ins gp_ax h1.2 he hn⟩
        intro x hx hm
        rw [st_ins_t] at hm
        rcases hm with hm | hm
        · exact h1.1 x hx hm
        · rw [hm]; exact hp
      rw [this] at hf
      exact absurd hf (by decide)
theorem gp_mk_fun (T : Nat → Bool) : ∀ e, e < 10 → (tb_mk T 10).testBit e = T e := by
  intro e he
  rw [tb_mk_b, decide_eq_true he, Bool.and_true]
theorem gp_bas_congr {P T U : Nat → Bool} (h : ∀ e, e < 10 → T e = U e) (hT : mt_bas (gp_cl A B) P T) : mt_bas (gp_cl A B) P U := by
  have hs : st_sub T U := fun e he z => by rw [← h e he]; exact z
  have hs' : st_sub U T := fun e he z => by rw [h e he]; exact z
  exact ⟨fun e he z => hT.1 e he (hs' e he z), mt_ind_sub gp_ax hs' hT.2.1, fun e he z => mt_mono gp_ax hs (hT.2.2 e he z)⟩
/-- e is in every spanning forest -/
theorem gp_need {P e : Nat} (he : e < 10) (hP : P.testBit e = true) :
    (∀ s, s < 1024 → gp_bs A B P s = true → s.testBit e = true) ↔ ¬ gp_cl A B (st_del P.testBit e) e := by
  rw [← gy_need gp_ax he hP]
  constructor
  · intro h T hT
    rw [← gp_mk_fun T e he]
    exact h _ (tb_mk_lt T 10 (Nat.le_refl _)) (gp_bs_t.mpr (gp_bas_congr (fun x hx => (gp_mk_fun T x hx).symm) hT))
  · intro h s _ hs
    exact h _ (gp_bs_t.mp hs)
theorem gp_first (hC : ∀ e, e < 10 → C e ≤ 50) {P s : Nat} (hs : s < 1024) (hb : gp_bs A B P s = true) :
    s = gp_G A B C P 10 ∨ ws_key C (gp_G A B C P 10).testBit < ws_key C s.testBit := by
  rcases gy_first gp_ax hC (gp_G_gr P) (gp_bs_t.mp hb) with h | h
  · exact Or.inl (tb_ext hs gp_G_lt h)
  · exact Or.inr h
end
