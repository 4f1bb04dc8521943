/-! ===== the walks over all sets, over the weights, and over free numbers ===== -/
def yo_I : Option Nat → Int32
  | none => -1
  | some k => nI k
theorem yo_ne {l : Nat} (hl : l < 2 ^ 31) : ¬ nI l = -1 := fun z => nI_pos hl (by rw [z]; decide)
theorem yo_eq {k : Nat} {nv : Option Nat} (hk : k < 2 ^ 31) (hv : ∀ b, nv = some b → b < 2 ^ 31) : nI k = yo_I nv ↔ nv = some k := by
  cases nv with
  | none => exact ⟨fun z => absurd z (yo_ne hk), fun z => absurd z (by simp)⟩
  | some b =>
    have : nI k = nI b ↔ k = b := nI_eq hk (hv b rfl)
    refine this.trans ⟨fun z => by rw [z], fun z => ?_⟩
    injection z with z
    exact z.symm
def yo_b (C : Nat → Nat) (f : Nat → Bool) (nv : Option Nat) : Nat → Option Nat
  | 0 => none
  | k + 1 => if f k = true ∧ nv ≠ some k then
      (match yo_b C f nv k with
        | none => some k
        | some b => if ws_bf C k.testBit b.testBit = true then some k else some b)
    else yo_b C f nv k
theorem yo_b_spec {C : Nat → Nat} {f : Nat → Bool} {nv : Option Nat} : ∀ k, (yo_b C f nv k = none → ∀ c, c < k → f c = true → nv = some c) ∧
    (∀ b, yo_b C f nv k = some b → b < k ∧ f b = true ∧ nv ≠ some b ∧ ∀ c, c < k → f c = true → nv ≠ some c → ws_key C b.testBit ≤ ws_key C c.testBit) := by
  intro k
  induction k with
  | zero => exact ⟨fun _ c hc => absurd hc (by omega), fun b hb => absurd hb (by simp [yo_b])⟩
  | succ k ih =>
    rw [yo_b]
    by_cases h : f k = true ∧ nv ≠ some k
    · rw [if_pos h]
      cases hb : yo_b C f nv k with
      | none =>
        refine ⟨fun z => absurd z (by simp), fun b hbb => ?_⟩
        injection hbb with hbb
        subst hbb
        refine ⟨by omega, h.1, h.2, fun c hc hf hn => ?_⟩
        by_cases hck : c = k
        · rw [hck]; exact Nat.le_refl _
        · exact absurd (ih.1 hb c (by omega) hf) hn
      | some b0 =>
        obtain ⟨i1, i2, i3, i4⟩ := ih.2 b0 hb
        dsimp only
        by_cases hbf : ws_bf C k.testBit b0.testBit = true
        · rw [if_pos hbf]
          refine ⟨fun z => absurd z (by simp), fun b hbb => ?_⟩
          injection hbb with hbb
          subst hbb
          rw [ws_bf_key] at hbf
          refine ⟨by omega, h.1, h.2, fun c hc hf hn => ?_⟩
          by_cases hck : c = k
          · rw [hck]; exact Nat.le_refl _
          · have := i4 c (by omega) hf hn
            omega
        · rw [if_neg hbf]
          refine ⟨fun z => absurd z (by simp), fun b hbb => ?_⟩
          injection hbb with hbb
          subst hbb
          rw [ws_bf_key] at hbf
          refine ⟨by omega, i2, i3, fun c hc hf hn => ?_⟩
          by_cases hck : c = k
          · rw [hck]; omega
          · exact i4 c (by omega) hf hn
    · rw [if_neg h]
      refine ⟨fun z c hc hf => ?_, fun b hb => ?_⟩
      · by_cases hck : c = k
        · subst hck
          refine Classical.byContradiction fun hn => h ⟨hf, hn⟩
        · exact ih.1 z c (by omega) hf
      · obtain ⟨i1, i2, i3, i4⟩ := ih.2 b hb
        refine ⟨by omega, i2, i3, fun c hc hf hn => ?_⟩
        by_cases hck : c = k
        · subst hck
          exact absurd ⟨hf, hn⟩ h
        · exact i4 c (by omega) hf hn
theorem yo_b_G {A B C : Nat → Nat} (hC : ∀ e, C e ≤ 50) (P : Nat) : yo_b C (gp_bs A B P) none 1024 = some (gp_G A B C P 10) := by
  have hG := gp_bas_G (A := A) (B := B) (C := C) (fun e _ => hC e) P
  have hl : gp_G A B C P 10 < 1024 := gp_G_lt
  cases h : yo_b C (gp_bs A B P) none 1024 with
  | none => exact absurd ((yo_b_spec 1024).1 h _ hl hG) (by simp)
  | some b =>
    obtain ⟨h1, h2, _, h4⟩ := (yo_b_spec 1024).2 b h
    have h5 := h4 _ hl hG (by simp)
    rcases gp_first (C := C) (fun e _ => hC e) h1 h2 with h6 | h6
    · rw [h6]
    · omega
theorem yw_best_l {C : Nat → Nat} {f : Nat → Bool} {nv : Option Nat} {post : Int32 → Prop} {th on tw fo sp pa : Nat → Int32} (hC : ∀ e, C e ≤ 50) (hv : ∀ b, nv = some b → b < 2 ^ 31)
    (hsp : ∀ s, s < 1024 → sp s = tb_B (f s)) (h : post (yo_I (yo_b C f nv 1024))) :
    ∀ d k, k + d = 1024 → wY_best_4 post (yo_I nv) th on tw (gp_n C) fo sp pa (d + 1) (yo_I (yo_b C f nv k)) (nI k) := by
  intro d
  induction d with
  | zero =>
    intro k hk
    have hk : k = 1024 := by omega
    subst hk
    exact pk_le 1024 1024 (fun _ => h) (fun z => absurd z (by omega))
  | succ d ih =>
    intro k hk
    have hl : k < 1024 := by omega
    have hs : sp (nI k).toNatClampNeg = tb_B (f k) := by rw [nI_clamp (by omega)]; exact hsp k hl
    have hi := ih (k + 1) (by omega)
    rw [yo_b] at hi
    refine pk_le 1024 k (fun z => absurd z (by omega)) (fun _ => ⟨vp_in_nI hl (by omega), tb_brE hs (fun z => ?_) (fun z => br_c (fun z2 => ?_) (fun z2 => ?_))⟩)
    · rw [if_neg (by simp [z])] at hi
      exact nm_r (nI_1 k) hi
    · rw [yo_eq (by omega) hv] at z2
      rw [if_neg (by simp [z2])] at hi
      exact nm_r (nI_1 k) hi
    · rw [yo_eq (by omega) hv] at z2
      rw [if_pos ⟨z, z2⟩] at hi
      cases hb : yo_b C f nv k with
      | none =>
        rw [hb] at hi
        exact br_t (by decide) (nm_r (nI_1 k) hi)
      | some b =>
        have hbl := ((yo_b_spec k).2 b hb).1
        rw [hb] at hi
        refine br_f (nI_pos (by omega)) (yw_before hC hl (by omega) (tb_br (fun z3 => ?_) (fun z3 => ?_)))
        · simp only [z3] at hi
          exact nm_r (nI_1 k) hi
        · simp only [z3] at hi
          exact nm_r (nI_1 k) hi
theorem yw_best {C : Nat → Nat} {f : Nat → Bool} {nv : Option Nat} {post : Int32 → Prop} {th on tw fo sp pa : Nat → Int32} (hC : ∀ e, C e ≤ 50) (hv : ∀ b, nv = some b → b < 2 ^ 31)
    (hsp : ∀ s, s < 1024 → sp s = tb_B (f s)) (h : post (yo_I (yo_b C f nv 1024))) : wpY_best post (th, on, tw, gp_n C, fo, sp, pa) (yo_I nv) :=
  ⟨_, yw_best_l hC hv hsp h 1024 0 rfl⟩
theorem yw_best0 {A B C : Nat → Nat} {P : Nat} {post : Int32 → Prop} {th on tw fo sp pa : Nat → Int32} (hC : ∀ e, C e ≤ 50)
    (hsp : ∀ s, s < 1024 → sp s = tb_B (gp_bs A B P s)) (h : post (nI (gp_G A B C P 10))) : wpY_best post (th, on, tw, gp_n C, fo, sp, pa) (-1) :=
  yw_best (nv := none) hC (fun b hb => absurd hb (by simp)) hsp (by rw [yo_b_G hC]; exact h)
theorem yw_chosen {A B C : Nat → Nat} {P : Nat} {post : Int32 → SY → Prop} {fo sp pa : Nat → Int32} (hA : ∀ e, A e < 6) (hB : ∀ e, B e < 6) (hC : ∀ e, C e ≤ 50) (hP : P < 1024)
    (h : ∀ fo sp pa : Nat → Int32, (∀ s, s < 1024 → sp s = tb_B (gp_bs A B P s)) → post (nI (gp_G A B C P 10)) (gp_th P, gp_n A, gp_n B, gp_n C, fo, sp, pa)) :
    wpY_chosen post (gp_th P, gp_n A, gp_n B, gp_n C, fo, sp, pa) :=
  yw_work hA hB hP (fun fo sp pa hs => yw_best0 hC hs (h fo sp pa hs))
theorem yw_total {A B C : Nat → Nat} {P : Nat} {post : Int32 → SY → Prop} {fo sp pa : Nat → Int32} (hA : ∀ e, A e < 6) (hB : ∀ e, B e < 6) (hC : ∀ e, C e ≤ 50) (hP : P < 1024)
    (h : ∀ fo sp pa : Nat → Int32, (∀ s, s < 1024 → sp s = tb_B (gp_bs A B P s)) → post (nI (ws_sm C (gp_G A B C P 10).testBit 10)) (gp_th P, gp_n A, gp_n B, gp_n C, fo, sp, pa)) :
    wpY_total post (gp_th P, gp_n A, gp_n B, gp_n C, fo, sp, pa) := by
  unfold wpY_total
  dsimp only
  refine yw_chosen hA hB hC hP (fun fo sp pa hs => ?_)
  exact yw_sum gp_G_lt (h fo sp pa hs)
def yo_n (f : Nat → Bool) (e : Nat) : Nat → Bool
  | 0 => true
  | k + 1 => yo_n f e k && (!(f k) || k.testBit e)
theorem yo_n_t {f : Nat → Bool} {e : Nat} : ∀ k, yo_n f e k = true ↔ ∀ s, s < k → f s = true → s.testBit e = true := by
  intro k
  induction k with
  | zero => exact ⟨fun _ s hs => absurd hs (by omega), fun _ => rfl⟩
  | succ k ih =>
    rw [yo_n, Bool.and_eq_true, ih, Bool.or_eq_true, Bool.not_eq_true']
    constructor
    · intro h s hs hf
      by_cases hsk : s = k
      · subst hsk
        rcases h.2 with z | z
        · rw [z] at hf; exact absurd hf (by decide)
        · exact z
      · exact h.1 s (by omega) hf
    · intro h
      refine ⟨fun s hs => h s (by omega), ?_⟩
      cases hf : f k
      · exact Or.inl rfl
      · exact Or.inr (h k (by omega) hf)
theorem yw_need_l {f : Nat → Bool} {e : Nat} {post : Int32 → Prop} {th on tw he fo sp pa : Nat → Int32} (hl : e < 10)
    (hsp : ∀ s, s < 1024 → sp s = tb_B (f s)) (h : post (tb_B (yo_n f e 1024))) :
    ∀ d k, k + d = 1024 → wY_needed_4 post (nI e) th on tw he fo sp pa (d + 1) (tb_B (yo_n f e k)) (nI k) := by
  intro d
  induction d with
  | zero =>
    intro k hk
    have hk : k = 1024 := by omega
    subst hk
    exact pk_le 1024 1024 (fun _ => ⟨tb_nb _, h⟩) (fun z => absurd z (by omega))
  | succ d ih =>
    intro k hk
    have hkl : k < 1024 := by omega
    have hs : sp (nI k).toNatClampNeg = tb_B (f k) := by rw [nI_clamp (by omega)]; exact hsp k hkl
    have go : ∀ b : Bool, yo_n f e (k + 1) = b → ∀ x : Int32, x = nI k + 1 → wY_needed_4 post (nI e) th on tw he fo sp pa (d + 1) (tb_B b) x := by
      intro b hb x hx
      have hi := ih (k + 1) (by omega)
      rw [hb] at hi
      rw [hx, nI_1]
      exact hi
    refine pk_le 1024 k (fun z => absurd z (by omega)) (fun _ => tb_br (fun z => go false ?_) (fun z => ⟨vp_in_nI hkl (by omega), tb_brE hs (fun z2 => go true ?_) (fun z2 => tb_br1 (tb_shr hkl hl) (fun z3 => go true ?_) (fun z3 => go false ?_))⟩))
    · rw [yo_n, z]; rfl
    · rw [yo_n, z, z2]; rfl
    · rw [yo_n, z, z2, z3]; rfl
    · rw [yo_n, z, z2, z3]; rfl
theorem yw_need {f : Nat → Bool} {e : Nat} {post : Int32 → Prop} {th on tw he fo sp pa : Nat → Int32} (hl : e < 10)
    (hsp : ∀ s, s < 1024 → sp s = tb_B (f s)) (h : post (tb_B (yo_n f e 1024))) : wpY_needed post (th, on, tw, he, fo, sp, pa) (nI e) :=
  ⟨_, yw_need_l hl hsp h 1024 0 rfl⟩
/-! counting, joining, meeting -/
def ct_n (f : Nat → Bool) : Nat → Nat
  | 0 => 0
  | k + 1 => ct_n f k + (if f k = true then 1 else 0)
def ct_o (f : Nat → Bool) : Nat → Nat
  | 0 => 0
  | k + 1 => if f k = true then ct_o f k ||| k else ct_o f k
def ct_a (f : Nat → Bool) (b : Nat) : Nat → Nat
  | 0 => b
  | k + 1 => if f k = true then ct_a f b k &&& k else ct_a f b k
noncomputable def ct_f (A B C : Nat → Nat) (P L s : Nat) : Bool := gp_bs A B P s && decide (ws_sm C s.testBit 10 = L)
theorem ct_a_b {f : Nat → Bool} {b i : Nat} : ∀ k, (ct_a f b k).testBit i = true ↔ b.testBit i = true ∧ ∀ s, s < k → f s = true → s.testBit i = true := by
  intro k
  induction k with
  | zero => exact ⟨fun h => ⟨h, fun s hs => absurd hs (by omega)⟩, fun h => h.1⟩
  | succ k ih =>
    rw [ct_a]
    by_cases h : f k = true
    · rw [if_pos h, Nat.testBit_and, Bool.and_eq_true, ih]
      constructor
      · intro z
        refine ⟨z.1.1, fun s hs hf => ?_⟩
        by_cases hsk : s = k
        · rw [hsk]; exact z.2
        · exact z.1.2 s (by omega) hf
      · intro z
        exact ⟨⟨z.1, fun s hs hf => z.2 s (by omega) hf⟩, z.2 k (by omega) h⟩
    · rw [if_neg h, ih]
      constructor
      · intro z
        refine ⟨z.1, fun s hs hf => ?_⟩
        by_cases hsk : s = k
        · rw [hsk] at hf; exact absurd hf h
        · exact z.2 s (by omega) hf
      · intro z
        exact ⟨z.1, fun s hs hf => z.2 s (by omega) hf⟩
theorem ct_cert {A B C : Nat → Nat} (hC : ∀ e, C e ≤ 50) (P : Nat) :
    ct_a (ct_f A B C P (ws_sm C (gp_G A B C P 10).testBit 10)) P 1024 = ct_a (ct_f A B C P (ws_sm C (gp_G A B C P 10).testBit 10)) (gp_G A B C P 10) 1024 := by
  have hG := gp_bas_G (A := A) (B := B) (C := C) (fun e _ => hC e) P
  have hf : ct_f A B C P (ws_sm C (gp_G A B C P 10).testBit 10) (gp_G A B C P 10) = true := by
    unfold ct_f
    rw [hG, decide_eq_true rfl]; rfl
  apply Nat.eq_of_testBit_eq
  intro i
  rw [Bool.eq_iff_iff, ct_a_b, ct_a_b]
  constructor
  · intro h
    exact ⟨h.2 _ gp_G_lt hf, h.2⟩
  · intro h
    refine ⟨?_, h.2⟩
    rcases Nat.lt_or_ge i 10 with hi | hi
    · exact (gp_bs_t.mp hG).1 i hi h.1
    · have := h.1
      rw [tb_hi gp_G_lt hi] at this
      exact absurd this (by decide)
