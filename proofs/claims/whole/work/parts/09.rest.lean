/-! ===== limit, narrowest, add ===== -/
def yo_u (A : Nat → Nat) (e a : Nat) : Nat → Nat := fun x => if x = e then a else A x
theorem yo_u_n {A : Nat → Nat} {e a : Nat} (he : e < 10) : upd (gp_n A) (nI e).toNatClampNeg (nI a) = gp_n (yo_u A e a) := by
  funext x
  rw [nI_clamp (by omega)]
  unfold upd gp_n yo_u
  by_cases h : x = e
  · rw [if_pos h, if_pos h]
  · rw [if_neg h, if_neg h]
theorem yo_u_back {C D : Nat → Nat} {e : Nat} (h : ∀ x, x ≠ e → D x = C x) : yo_u D e (C e) = C := by
  funext x
  unfold yo_u
  by_cases hx : x = e
  · rw [if_pos hx, hx]
  · rw [if_neg hx, h x hx]
theorem yo_u_le {C : Nat → Nat} {e w m : Nat} (hC : ∀ e, C e ≤ m) (hw : w ≤ m) : ∀ x, yo_u C e w x ≤ m := by
  intro x
  unfold yo_u
  by_cases hx : x = e
  · rw [if_pos hx]; exact hw
  · rw [if_neg hx]; exact hC x
theorem yo_u_lt {C : Nat → Nat} {e w m : Nat} (hC : ∀ e, C e < m) (hw : w < m) : ∀ x, yo_u C e w x < m := by
  intro x
  unfold yo_u
  by_cases hx : x = e
  · rw [if_pos hx]; exact hw
  · rw [if_neg hx]; exact hC x
def yo_l (st : Nat → Bool) : Nat → Option Nat
  | 0 => none
  | m + 1 => if st m = true then some m else yo_l st m
def yo_m : Nat → Int32
  | 0 => -1
  | m + 1 => nI m
theorem yo_m_1 : ∀ m, nI m + (-1) = yo_m m
  | 0 => rfl
  | m + 1 => pk_m1 m
section
variable {A B C : Nat → Nat} {P e : Nat}
theorem xw_limit_l {post : Int32 → SX → Prop} (hA : ∀ e, A e < 6) (hB : ∀ e, B e < 6) (hC : ∀ e, C e ≤ 50) (hP : P < 1024) (he : e < 10) :
    ∀ m, m ≤ 52 → (∀ q : Nat → Int32, post (yo_I (yo_l (gp_st A B C P e) m)) (nI P, gp_n A, gp_n B, gp_n C, q)) →
      ∀ pa : Nat → Int32, wX_limit_16 post (nI e) (m + 1) (yo_m m) (nI P) (gp_n A) (gp_n B) (gp_n C) pa := by
  intro m
  induction m with
  | zero =>
    intro _ h pa
    exact br_t (show (-1 : Int32) < 0 by decide) (h pa)
  | succ m ih =>
    intro hm h pa
    rw [yo_l] at h
    refine br_f (nI_pos (n := m) (by omega)) (xw_stands hA hB hC hP he (w := m) (by omega) rfl (fun q => tb_br (fun z => ?_) (fun z => ?_)))
    · rw [if_neg (by simp [z])] at h
      exact nm_r (yo_m_1 m) (ih (by omega) h q)
    · rw [if_pos z] at h
      exact h q
theorem gp_st_u {w : Nat} : gp_st A B (yo_u C e w) P e w = gp_st A B C P e w := by
  have : gp_S (yo_u C e w) P e w = gp_S C P e w := by
    funext f
    unfold gp_S gp_bf yo_u
    by_cases hf : f = e
    · simp [hf]
    · simp [hf]
  unfold gp_st
  rw [this]
theorem yw_limit_l {post : Int32 → SY → Prop} {th on tw fo sp pa : Nat → Int32} (hC : ∀ e, C e ≤ 50) (he : e < 10) (hPe : P.testBit e = true)
    (hsp : ∀ s, s < 1024 → sp s = tb_B (gp_bs A B P s)) :
    ∀ m, m ≤ 51 → post (yo_I (yo_l (gp_st A B C P e) m)) (th, on, tw, gp_n C, fo, sp, pa) →
      ∀ D : Nat → Nat, (∀ x, x ≠ e → D x = C x) → wY_limit_38 post (nI e) (nI (C e)) (m + 2) (-1) (yo_m m) th on tw (gp_n D) fo sp pa := by
  have ie : vp_in (nI e) 10 := vp_in_nI he (by omega)
  have back : ∀ D : Nat → Nat, (∀ x, x ≠ e → D x = C x) → upd (gp_n D) (nI e).toNatClampNeg (nI (C e)) = gp_n C := by
    intro D hD
    rw [yo_u_n he, yo_u_back hD]
  intro m
  induction m with
  | zero =>
    intro _ h D hD
    exact br_t (show (-1 : Int32) < 0 by decide) ⟨ie, nm_r (back D hD) h⟩
  | succ m ih =>
    intro hm h D hD
    rw [yo_l] at h
    have hD2 : yo_u D e m = yo_u C e m := by
      funext x
      unfold yo_u
      by_cases hx : x = e
      · rw [if_pos hx, if_pos hx]
      · rw [if_neg hx, if_neg hx, hD x hx]
    have hE : ∀ x, x ≠ e → yo_u C e m x = C x := by
      intro x hx
      unfold yo_u
      rw [if_neg hx]
    have hbit : (gp_G A B (yo_u C e m) P 10).testBit e = gp_st A B C P e m := by
      rw [gp_G_b he, hPe, Bool.true_and]
      have : yo_u C e m e = m := if_pos rfl
      rw [this, gp_st_u]
    refine br_f (nI_pos (n := m) (by omega)) (br_f (by decide) ⟨ie, nm_r (by rw [show yo_m (m + 1) = nI m from rfl, yo_u_n he, hD2]) (yw_best0 (A := A) (B := B) (C := yo_u C e m) (P := P) (yo_u_le hC (by omega)) hsp
      (tb_br1 (tb_shr gp_G_lt he) (fun z => nm_r (yo_m_1 m) ?_) (fun z => nm_r (yo_m_1 m) ?_)))⟩)
    · rw [hbit] at z
      rw [if_pos z] at h
      exact br_c (fun _ => ⟨ie, nm_r (back _ hE) h⟩) (fun _ => br_t (nI_pos' (n := m) (by omega)) ⟨ie, nm_r (back _ hE) h⟩)
    · rw [hbit] at z
      rw [if_neg (by simp [z])] at h
      exact ih (by omega) h _ hE
/-- above the heaviest weight e stands just when it is in every spanning forest -/
theorem gp_st51 (hC : ∀ e, C e ≤ 50) (he : e < 10) (hPe : P.testBit e = true) : gp_st A B C P e 51 = yo_n (gp_bs A B P) e 1024 := by
  rw [Bool.eq_iff_iff, gp_st_iff, yo_n_t, gp_need he hPe]
  have : gp_cl A B (gp_S C P e 51) e ↔ gp_cl A B (st_del P.testBit e) e := by
    apply gp_ck_congr
    intro f _
    have := hC f
    have h1 : C f < 51 := by omega
    unfold gp_S gp_bf st_del
    simp [h1]
  rw [this]
/-! narrowest -/
def gp_U (C : Nat → Nat) (P w : Nat) : Nat → Bool := fun e => P.testBit e && decide (C e ≤ w)
theorem gp_pt_congr {S T : Nat → Bool} : ∀ k, (∀ e, e < k → S e = T e) → gp_pt A B S k = gp_pt A B T k := by
  intro k
  induction k with
  | zero => intro _; rfl
  | succ k ih =>
    intro h
    rw [gp_pt, gp_pt, ih (fun e he => h e (by omega)), h k (by omega)]
theorem xw_lup_l {post : SX → Prop} {w : Nat} (hA : ∀ e, A e < 6) (hB : ∀ e, B e < 6) (hC : ∀ e, C e ≤ 50) (hP : P < 1024) (hw : w ≤ 50)
    (h : ∀ q : Nat → Int32, (∀ v, v < 6 → q v = nI (gp_pt A B (gp_U C P w) 10 v)) → post (nI P, gp_n A, gp_n B, gp_n C, q)) :
    ∀ d k, k + d = 10 → ∀ pa : Nat → Int32, (∀ v, v < 6 → pa v = nI (gp_pt A B (gp_U C P w) k v)) → wX_linkUpTo_6 post (nI w) (d + 1) (nI k) (nI P) (gp_n A) (gp_n B) (gp_n C) pa := by
  intro d
  induction d with
  | zero =>
    intro k hk pa hq
    have hk : k = 10 := by omega
    subst hk
    exact pk_le 10 10 (fun _ => h pa hq) (fun z => absurd z (by omega))
  | succ d ih =>
    intro k hk pa hq
    have hc := hC k
    refine pk_le 10 k (fun z => absurd z (by omega)) (fun _ => xw_cont hP (by omega) (tb_br (fun z => ?_) (fun z => ⟨vp_in_nI (by omega) (by omega), pk_lt w (C k) (fun z2 => ?_)
      (fun z2 => xw_link (by omega) hA hB (gp_pt_lt hA (gp_U C P w) k) hq ?_) rfl (gp_n_at (by omega)) (by omega) (by omega)⟩)))
    · exact nm_r (nI_1 k) (ih (k + 1) (by omega) pa (fun v hv => by rw [hq v hv, gp_pt, if_neg (by simp [gp_U, z])]))
    · exact nm_r (nI_1 k) (ih (k + 1) (by omega) pa (fun v hv => by rw [hq v hv, gp_pt, if_neg (by simp [gp_U]; omega)]))
    · intro q hq'
      exact nm_r (nI_1 k) (ih (k + 1) (by omega) q (fun v hv => by rw [hq' v hv, gp_pt, if_pos (by simp [gp_U, z, z2])]))
theorem xw_lup {post : SX → Prop} {w : Nat} {pa : Nat → Int32} (hA : ∀ e, A e < 6) (hB : ∀ e, B e < 6) (hC : ∀ e, C e ≤ 50) (hP : P < 1024) (hw : w ≤ 50)
    (h : ∀ q : Nat → Int32, (∀ v, v < 6 → q v = nI (gp_pt A B (gp_U C P w) 10 v)) → post (nI P, gp_n A, gp_n B, gp_n C, q)) :
    wpX_linkUpTo post (nI P, gp_n A, gp_n B, gp_n C, pa) (nI w) :=
  xw_sep (fun q hq => ⟨_, xw_lup_l hA hB hC hP hw h 10 0 rfl q hq⟩)
def yo_a (A B C : Nat → Nat) (P a b : Nat) : Nat → Nat → Option Nat
  | 0, _ => none
  | d + 1, k => if gp_pt A B (gp_U C P k) 10 a = gp_pt A B (gp_U C P k) 10 b then some k else yo_a A B C P a b d (k + 1)
theorem xw_narrow_l {post : Int32 → SX → Prop} {a b : Nat} (hA : ∀ e, A e < 6) (hB : ∀ e, B e < 6) (hC : ∀ e, C e ≤ 50) (hP : P < 1024) (ha : a < 6) (hb : b < 6) :
    ∀ d k, k + d = 51 → (∀ q : Nat → Int32, post (yo_I (yo_a A B C P a b d k)) (nI P, gp_n A, gp_n B, gp_n C, q)) →
      ∀ pa : Nat → Int32, wX_narrowest_18 post (nI a) (nI b) (d + 1) (nI k) (nI P) (gp_n A) (gp_n B) (gp_n C) pa := by
  intro d
  induction d with
  | zero =>
    intro k hk h pa
    exact pk_lt 50 k (fun _ => h pa) (fun z => absurd z (by omega))
  | succ d ih =>
    intro k hk h pa
    rw [yo_a] at h
    have ia := gp_pt_lt (B := B) hA (gp_U C P k) 10 a ha
    have ib := gp_pt_lt (B := B) hA (gp_U C P k) 10 b hb
    refine pk_lt 50 k (fun z => absurd z (by omega)) (fun _ => xw_lup hA hB hC hP (by omega) (fun q hq => ⟨vp_in_nI ha (by omega), vp_in_nI hb (by omega), pk_eq _ _ (fun z => ?_) (fun z => ?_)
      (by rw [nI_clamp (by omega), hq a ha]) (by rw [nI_clamp (by omega), hq b hb]) (by omega) (by omega)⟩))
    · rw [if_pos z] at h
      exact h q
    · rw [if_neg z] at h
      exact nm_r (nI_1 k) (ih (k + 1) (by omega) h q)
theorem yw_n32 {post : Int32 → SY → Prop} {J : Int32 → (Nat → Int32) → (Nat → Int32) → (Nat → Int32) → (Nat → Int32) → (Nat → Int32) → (Nat → Int32) → (Nat → Int32) → Prop}
    {a b w : Nat} {fo sp pa : Nat → Int32} (hA : ∀ e, A e < 6) (hB : ∀ e, B e < 6) (hC : ∀ e, C e ≤ 50) (ha : a < 6) (hb : b < 6) (hw : w ≤ 50)
    (h1 : gp_pt A B (gp_U C P w) 10 a = gp_pt A B (gp_U C P w) 10 b → ∀ q : Nat → Int32, post (nI w) (gp_th P, gp_n A, gp_n B, gp_n C, fo, sp, q))
    (h2 : ¬ gp_pt A B (gp_U C P w) 10 a = gp_pt A B (gp_U C P w) 10 b → ∀ q : Nat → Int32, J (nI (w + 1)) (gp_th P) (gp_n A) (gp_n B) (gp_n C) fo sp q) :
    ∀ d k, k + d = 10 → wY_narrowest_32 post J (nI a) (nI b) (nI w) (gp_th P) (gp_n A) (gp_n B) (gp_n C) fo sp pa (d + 1) (nI (tb_mk (gp_U C P w) k)) (nI k) := by
  have ia := gp_pt_lt (B := B) hA (gp_U C P w) 10 a ha
  have ib := gp_pt_lt (B := B) hA (gp_U C P w) 10 b hb
  intro d
  induction d with
  | zero =>
    intro k hk
    have hk : k = 10 := by omega
    subst hk
    have hg : gp_pt A B (tb_mk (gp_U C P w) 10).testBit 10 = gp_pt A B (gp_U C P w) 10 := gp_pt_congr 10 (gp_mk_fun _)
    refine pk_le 10 10 (fun _ => yw_join hA hB (tb_mk_lt _ 10 (Nat.le_refl _)) (fun q hq => ⟨vp_in_nI ha (by omega), vp_in_nI hb (by omega), pk_eq _ _ (fun z => ?_) (fun z => ?_)
      (by rw [nI_clamp (by omega), hq a ha, hg]) (by rw [nI_clamp (by omega), hq b hb, hg]) (by omega) (by omega)⟩)) (fun z => absurd z (by omega))
    · exact h1 z q
    · exact nm_r (nI_1 w) (h2 z q)
  | succ d ih =>
    intro k hk
    have hc := hC k
    have hi := ih (k + 1) (by omega)
    rw [tb_mk] at hi
    refine pk_le 10 k (fun z => absurd z (by omega)) (fun _ => ⟨vp_in_nI (by omega) (by omega), tb_brE (gp_th_at (by omega)) (fun z => ?_) (fun z => ⟨vp_in_nI (by omega) (by omega), pk_lt w (C k) (fun z2 => ?_) (fun z2 => ?_)
      rfl (gp_n_at (by omega)) (by omega) (by omega)⟩)⟩)
    · rw [if_neg (by simp [gp_U, z])] at hi
      exact nm_r ((tb_or _ 0).trans (by rw [Nat.or_zero])) (nm_r (nI_1 k) hi)
    · rw [if_neg (by simp [gp_U]; omega)] at hi
      exact nm_r ((tb_or _ 0).trans (by rw [Nat.or_zero])) (nm_r (nI_1 k) hi)
    · rw [if_pos (by simp [gp_U, z, z2]), ← tb_or, ← tb_shl k (by omega)] at hi
      exact nm_e (nm_r (nI_1 k) hi)
theorem yw_narrow_l {post : Int32 → SY → Prop} {a b : Nat} {fo sp : Nat → Int32} (hA : ∀ e, A e < 6) (hB : ∀ e, B e < 6) (hC : ∀ e, C e ≤ 50) (ha : a < 6) (hb : b < 6) :
    ∀ d k, k + d = 51 → (∀ q : Nat → Int32, post (yo_I (yo_a A B C P a b d k)) (gp_th P, gp_n A, gp_n B, gp_n C, fo, sp, q)) →
      ∀ pa : Nat → Int32, wY_narrowest_20 post (nI a) (nI b) (d + 1) (nI k) (gp_th P) (gp_n A) (gp_n B) (gp_n C) fo sp pa := by
  intro d
  induction d with
  | zero =>
    intro k hk h pa
    exact pk_lt 50 k (fun _ => h pa) (fun z => absurd z (by omega))
  | succ d ih =>
    intro k hk h pa
    rw [yo_a] at h
    refine pk_lt 50 k (fun z => absurd z (by omega)) (fun _ => ⟨_, yw_n32 hA hB hC ha hb (by omega) (fun z q => ?_) (fun z q => ?_) 10 0 rfl⟩)
    · rw [if_pos z] at h
      exact h q
    · rw [if_neg z] at h
      exact ih (k + 1) (by omega) h q
/-! add -/
def yo_f (P : Nat) : Nat → Nat → Option Nat
  | 0, _ => none
  | d + 1, k => if P.testBit k = true then yo_f P d (k + 1) else some k
theorem xw_add_l {post : Int32 → SX → Prop} {pa : Nat → Int32} {a b w : Nat} (hP : P < 1024) :
    ∀ d k, k + d = 10 → (yo_f P d k = none → post (-2) (nI P, gp_n A, gp_n B, gp_n C, pa)) →
      (∀ e, e < 10 → yo_f P d k = some e → post (nI e) (nI (P ||| 2 ^ e), gp_n (yo_u A e a), gp_n (yo_u B e b), gp_n (yo_u C e w), pa)) →
      wX_add_31 post (nI a) (nI b) (nI w) (nI P) (gp_n A) (gp_n B) (gp_n C) pa (d + 1) (nI k) := by
  intro d
  induction d with
  | zero =>
    intro k hk h1 _
    exact pk_le 10 k (fun _ => h1 rfl) (fun z => absurd z (by omega))
  | succ d ih =>
    intro k hk h1 h2
    rw [yo_f] at h1 h2
    have hl : k < 10 := by omega
    have ik : vp_in (nI k) 10 := vp_in_nI hl (by omega)
    refine pk_le 10 k (fun z => absurd z (by omega)) (fun _ => xw_cont hP hl (tb_br (fun z => ?_) (fun z => ?_)))
    · rw [if_neg (by simp [z])] at h2
      exact ⟨ik, nm_r (yo_u_n hl) ⟨ik, nm_r (yo_u_n hl) ⟨ik, nm_r (yo_u_n hl) (nm_r (by rw [tb_shl k hl, tb_or]) (h2 k hl rfl))⟩⟩⟩
    · rw [if_pos z] at h1 h2
      exact nm_r (nI_1 k) (ih (k + 1) (by omega) h1 h2)
theorem gp_th_or {e : Nat} (he : e < 10) : upd (gp_th P) (nI e).toNatClampNeg (vp_nar .boolean 1) = gp_th (P ||| 2 ^ e) := by
  funext x
  rw [nI_clamp (by omega), show vp_nar .boolean 1 = tb_B true from tb_vb true]
  unfold upd gp_th
  rw [tb_or_b]
  by_cases h : x = e
  · subst h; simp
  · rw [if_neg h, decide_eq_false (fun z => h z.symm), Bool.or_false]
theorem gp_th_cut {e : Nat} (hP : P < 1024) (he : e < 10) : upd (gp_th P) (nI e).toNatClampNeg (vp_nar .boolean 0) = gp_th (tb_cut P e) := by
  funext x
  rw [nI_clamp (by omega), show vp_nar .boolean 0 = tb_B false from tb_vb false]
  unfold upd gp_th
  rcases Nat.lt_or_ge x 10 with hx | hx
  · rw [tb_cut_b hx]
    by_cases h : x = e
    · subst h; simp
    · rw [if_neg h, decide_eq_false h, Bool.not_false, Bool.and_true]
  · rw [if_neg (by omega), tb_hi hP hx, tb_hi (tb_cut_lt hP) hx]
theorem yw_add_l {post : Int32 → SY → Prop} {fo sp pa : Nat → Int32} {a b w : Nat} :
    ∀ d k, k + d = 10 → (yo_f P d k = none → post (-2) (gp_th P, gp_n A, gp_n B, gp_n C, fo, sp, pa)) →
      (∀ e, e < 10 → yo_f P d k = some e → post (nI e) (gp_th (P ||| 2 ^ e), gp_n (yo_u A e a), gp_n (yo_u B e b), gp_n (yo_u C e w), fo, sp, pa)) →
      wY_add_36 post (nI a) (nI b) (nI w) (gp_th P) (gp_n A) (gp_n B) (gp_n C) fo sp pa (d + 1) (nI k) := by
  intro d
  induction d with
  | zero =>
    intro k hk h1 _
    exact pk_le 10 k (fun _ => h1 rfl) (fun z => absurd z (by omega))
  | succ d ih =>
    intro k hk h1 h2
    rw [yo_f] at h1 h2
    have hl : k < 10 := by omega
    have ik : vp_in (nI k) 10 := vp_in_nI hl (by omega)
    refine pk_le 10 k (fun z => absurd z (by omega)) (fun _ => ⟨ik, tb_brE (gp_th_at hl) (fun z => ?_) (fun z => ?_)⟩)
    · rw [if_neg (by simp [z])] at h2
      exact ⟨ik, nm_r (gp_th_or hl) ⟨ik, nm_r (yo_u_n hl) ⟨ik, nm_r (yo_u_n hl) ⟨ik, nm_r (yo_u_n hl) (h2 k hl rfl)⟩⟩⟩⟩
    · rw [if_pos z] at h1 h2
      exact nm_r (nI_1 k) (ih (k + 1) (by omega) h1 h2)
end
