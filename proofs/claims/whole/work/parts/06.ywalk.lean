/-! ===== the reference's walks ===== -/
def gp_th (P : Nat) : Nat → Int32 := fun e => tb_B (P.testBit e)
theorem gp_th_at {P e : Nat} (he : e < 10) : gp_th P (nI e).toNatClampNeg = tb_B (P.testBit e) := by
  rw [nI_clamp (by omega)]; rfl
theorem tb_brE {x : Int32} {b : Bool} {X Y : Prop} (hx : x = tb_B b) (f : b = false → X) (g : b = true → Y) : (x = 0 → X) ∧ (¬ x = 0 → Y) := by
  subst hx; exact tb_br f g
theorem tb_br1 {x : Int32} {b : Bool} {X Y : Prop} (hx : x = tb_B b) (f : b = true → X) (g : b = false → Y) : (x = 1 → X) ∧ (¬ x = 1 → Y) := by
  subst hx
  exact ⟨fun h => f ((tb_B1 b).mp h), fun h => g (by cases b; rfl; exact absurd rfl h)⟩
theorem yw_is {post : Int32 → Prop} {on tw he fo sp pa : Nat → Int32} {P e : Nat} (hl : e < 10) (h : post (tb_B (P.testBit e))) : wpY_is post (gp_th P, on, tw, he, fo, sp, pa) (nI e) :=
  br_f (nI_pos (by omega)) (pk_le 10 e (fun z => absurd z (by omega)) (fun _ => ⟨vp_in_nI hl (by omega), tb_brE (gp_th_at hl)
    (fun z => by rw [z] at h; exact h) (fun z => by rw [z] at h; exact h)⟩))
theorem yw_is_out {post : Int32 → Prop} {v : SY} {x : Int32} (hx : x < 0 ∨ nI 10 ≤ x) (h : post 0) : wpY_is post v x := by
  by_cases h0 : x < 0
  · exact br_t h0 h
  · exact br_f h0 (br_t (hx.resolve_left h0) h)
theorem yw_edges_l {post : Int32 → Prop} {on tw he fo sp pa : Nat → Int32} {P : Nat} (h : post (nI (tb_mk P.testBit 10))) :
    ∀ d k, k + d = 10 → wY_edges_4 post (gp_th P) on tw he fo sp pa (d + 1) (nI (tb_mk P.testBit k)) (nI k) := by
  intro d
  induction d with
  | zero =>
    intro k hk
    have hk : k = 10 := by omega
    subst hk
    exact pk_le 10 10 (fun _ => h) (fun z => absurd z (by omega))
  | succ d ih =>
    intro k hk
    refine pk_le 10 k (fun z => absurd z (by omega)) (fun _ => ⟨vp_in_nI (by omega) (by omega), tb_brE (gp_th_at (by omega)) (fun z => ?_) (fun z => ?_)⟩)
    · have := ih (k + 1) (by omega)
      rw [tb_mk, if_neg (by simp [z])] at this
      exact nm_r ((tb_or _ 0).trans (by rw [Nat.or_zero])) (nm_r (nI_1 k) this)
    · have := ih (k + 1) (by omega)
      rw [tb_mk, if_pos z, ← tb_or, ← tb_shl k (by omega)] at this
      exact nm_e (nm_r (nI_1 k) this)
theorem tb_mk_self {P : Nat} (hP : P < 1024) : tb_mk P.testBit 10 = P :=
  tb_ext (tb_mk_lt _ 10 (Nat.le_refl _)) hP (fun e he => gp_mk_fun _ e he)
theorem yw_edges {post : Int32 → Prop} {on tw he fo sp pa : Nat → Int32} {P : Nat} (hP : P < 1024) (h : post (nI P)) : wpY_edges post (gp_th P, on, tw, he, fo, sp, pa) :=
  ⟨_, yw_edges_l (by rw [tb_mk_self hP]; exact h) 10 0 rfl⟩
theorem yw_j86 {post : Int32 → SY → Prop} {J : Int32 → Int32 → (Nat → Int32) → (Nat → Int32) → (Nat → Int32) → (Nat → Int32) → (Nat → Int32) → (Nat → Int32) → (Nat → Int32) → Prop}
    {x1 x2 x3 : Int32} {th on tw he fo sp : Nat → Int32} {p : Nat → Nat} {a b : Nat} (hb : b < 6) (hp : ∀ v, v < 6 → p v < 6)
    (h : ∀ q : Nat → Int32, (∀ v, v < 6 → q v = nI (gp_mg p a b v)) → J x2 (x3 + 1) th on tw he fo sp q) :
    ∀ d k, k + d = 6 → ∀ pa : Nat → Int32, (∀ v, v < 6 → pa v = nI (if v < k then gp_mg p a b v else p v)) → wY_join_86 post J x1 x2 x3 (nI (p a)) (nI (p b)) (d + 1) (nI k) th on tw he fo sp pa := by
  intro d
  induction d with
  | zero =>
    intro k hk pa hq
    exact pk_le 6 k (fun _ => nm_e (h pa (fun v hv => by rw [hq v hv, if_pos (by omega)]))) (fun z => absurd z (by omega))
  | succ d ih =>
    intro k hk pa hq
    have hpk : pa (nI k).toNatClampNeg = nI (p k) := by rw [nI_clamp (by omega), hq k (by omega), if_neg (by omega)]
    have h1 := hp k (by omega)
    have h2 := hp b hb
    have ik : vp_in (nI k) 6 := vp_in_nI (by omega) (by omega)
    refine pk_le 6 k (fun z => absurd z (by omega)) (fun _ => ⟨ik, pk_eq (p k) (p b)
      (fun z => ⟨ik, nm_r (e' := upd pa k (nI (p a))) (by rw [nI_clamp (by omega)]) (nm_r (nI_1 k) (ih (k + 1) (by omega) _ ?_))⟩)
      (fun z => ⟨ik, ik, nm_r (e' := upd pa k (nI (p k))) (by rw [hpk, nI_clamp (by omega)]) (nm_r (nI_1 k) (ih (k + 1) (by omega) _ ?_))⟩) hpk rfl (by omega) (by omega)⟩)
    · intro v hv
      by_cases hvk : v = k
      · subst hvk
        rw [pk_us, if_pos (by omega)]
        unfold gp_mg
        rw [if_pos z]
      · rw [pk_un hvk, hq v hv]
        by_cases hl : v < k
        · rw [if_pos hl, if_pos (by omega)]
        · rw [if_neg hl, if_neg (by omega)]
    · intro v hv
      by_cases hvk : v = k
      · subst hvk
        rw [pk_us, if_pos (by omega)]
        unfold gp_mg
        rw [if_neg z]
      · rw [pk_un hvk, hq v hv]
        by_cases hl : v < k
        · rw [if_pos hl, if_pos (by omega)]
        · rw [if_neg hl, if_neg (by omega)]
theorem yw_j25 {A B : Nat → Nat} {post : Int32 → SY → Prop} {th he fo sp : Nat → Int32} {s : Nat} (hA : ∀ e, A e < 6) (hB : ∀ e, B e < 6) (hs : s < 1024)
    (h : ∀ q : Nat → Int32, (∀ v, v < 6 → q v = nI (gp_pt A B s.testBit 10 v)) → post (tb_B (gp_ok A B s.testBit 10)) (th, gp_n A, gp_n B, he, fo, sp, q)) :
    ∀ d k, k + d = 10 → ∀ pa : Nat → Int32, (∀ v, v < 6 → pa v = nI (gp_pt A B s.testBit k v)) → wY_join_25 post (nI s) (d + 1) (tb_B (gp_ok A B s.testBit k)) (nI k) th (gp_n A) (gp_n B) he fo sp pa := by
  intro d
  induction d with
  | zero =>
    intro k hk pa hq
    have hk : k = 10 := by omega
    subst hk
    exact pk_le 10 10 (fun _ => ⟨tb_nb _, h pa hq⟩) (fun z => absurd z (by omega))
  | succ d ih =>
    intro k hk pa hq
    have hl : k < 10 := by omega
    have ie : vp_in (nI k) 10 := vp_in_nI hl (by omega)
    have hAe := hA k
    have hBe := hB k
    have h1 := gp_pt_lt (B := B) hA s.testBit k _ hAe
    have h2 := gp_pt_lt (B := B) hA s.testBit k _ hBe
    have eA : gp_n A (nI k).toNatClampNeg = nI (A k) := gp_n_at hl
    have eB : gp_n B (nI k).toNatClampNeg = nI (B k) := gp_n_at hl
    have pA : pa (gp_n A (nI k).toNatClampNeg).toNatClampNeg = nI (gp_pt A B s.testBit k (A k)) := by rw [eA, nI_clamp (by omega), hq _ hAe]
    have pB : pa (gp_n B (nI k).toNatClampNeg).toNatClampNeg = nI (gp_pt A B s.testBit k (B k)) := by rw [eB, nI_clamp (by omega), hq _ hBe]
    refine pk_le 10 k (fun z => absurd z (by omega)) (fun _ => tb_br1 (tb_shr hs hl)
      (fun z => ⟨ie, by rw [eA]; exact vp_in_nI hAe (by omega), nm_r pA ⟨ie, by rw [eB]; exact vp_in_nI hBe (by omega), nm_r pB ?_⟩⟩)
      (fun z => ?_))
    · have go : ∀ b : Bool, gp_ok A B s.testBit (k + 1) = b → ∃ n86 : Nat, wY_join_86 post (wY_join_25 post (nI s) (d + 1)) (nI s) (tb_B b) (nI k) (nI (gp_pt A B s.testBit k (A k))) (nI (gp_pt A B s.testBit k (B k))) n86 0 th (gp_n A) (gp_n B) he fo sp pa := by
        intro b hb
        refine ⟨_, yw_j86 hBe (gp_pt_lt hA s.testBit k) ?_ 6 0 rfl pa (fun v hv => by rw [hq v hv, if_neg (by omega)])⟩
        intro q hq'
        have := ih (k + 1) (by omega) q (fun v hv => by rw [hq' v hv, gp_pt, if_pos z])
        rw [hb, ← nI_1 k] at this
        exact this
      refine tb_br (fun z2 => go false (by rw [gp_ok, z2]; rfl)) (fun z2 => pk_eq _ _ (fun z3 => go false ?_) (fun z3 => go true ?_) rfl rfl (by omega) (by omega))
      · rw [gp_ok, z, z2, decide_eq_true z3]; rfl
      · rw [gp_ok, z, z2, decide_eq_false z3]; rfl
    · have := ih (k + 1) (by omega) pa (fun v hv => by rw [hq v hv, gp_pt, if_neg (by simp [z])])
      rw [gp_ok, z] at this
      simp only [Bool.not_false, Bool.true_or, Bool.and_true] at this
      exact nm_r (nI_1 k) this
theorem yw_j4 {post : Int32 → SY → Prop} {x1 x2 : Int32} {th on tw he fo sp : Nat → Int32}
    (h : ∀ q : Nat → Int32, (∀ v, v < 6 → q v = nI v) → ∃ n25 : Nat, wY_join_25 post x1 n25 x2 0 th on tw he fo sp q) :
    ∀ d k, k + d = 6 → ∀ pa : Nat → Int32, (∀ v, v < k → pa v = nI v) → wY_join_4 post x1 x2 (d + 1) (nI k) th on tw he fo sp pa := by
  intro d
  induction d with
  | zero =>
    intro k hk pa hp
    exact pk_le 6 k (fun _ => h pa (fun v hv => hp v (by omega))) (fun z => absurd z (by omega))
  | succ d ih =>
    intro k hk pa hp
    refine pk_le 6 k (fun z => absurd z (by omega)) (fun _ => ⟨vp_in_nI (by omega) (by omega), nm_r (e' := upd pa k (nI k)) (by rw [nI_clamp (by omega)]) (nm_r (nI_1 k) (ih (k + 1) (by omega) _ ?_))⟩)
    intro v hv
    by_cases hvk : v = k
    · subst hvk; exact pk_us
    · rw [pk_un hvk]; exact hp v (by omega)
theorem yw_join {A B : Nat → Nat} {post : Int32 → SY → Prop} {th he fo sp pa : Nat → Int32} {s : Nat} (hA : ∀ e, A e < 6) (hB : ∀ e, B e < 6) (hs : s < 1024)
    (h : ∀ q : Nat → Int32, (∀ v, v < 6 → q v = nI (gp_pt A B s.testBit 10 v)) → post (tb_B (gp_ok A B s.testBit 10)) (th, gp_n A, gp_n B, he, fo, sp, q)) :
    wpY_join post (th, gp_n A, gp_n B, he, fo, sp, pa) (nI s) :=
  ⟨_, yw_j4 (fun q hq => ⟨_, yw_j25 hA hB hs h 10 0 rfl q hq⟩) 6 0 rfl pa (fun _ h => absurd h (by omega))⟩
noncomputable def gp_sv (A B : Nat → Nat) (P s : Nat) : Nat → Bool
  | 0 => gp_fo A B P s
  | j + 1 => gp_sv A B P s j && (s.testBit j || !(gp_fo A B P (s ||| 2 ^ j)))
theorem gp_sv_t {A B : Nat → Nat} {P s : Nat} : ∀ j, gp_sv A B P s j = true ↔ gp_fo A B P s = true ∧ ∀ e, e < j → s.testBit e = true ∨ gp_fo A B P (s ||| 2 ^ e) = false := by
  intro j
  induction j with
  | zero => exact ⟨fun h => ⟨h, fun e he => absurd he (by omega)⟩, fun h => h.1⟩
  | succ j ih =>
    rw [gp_sv, Bool.and_eq_true, ih, Bool.or_eq_true, Bool.not_eq_true']
    constructor
    · intro h
      refine ⟨h.1.1, fun e he => ?_⟩
      by_cases hej : e = j
      · rw [hej]; exact h.2
      · exact h.1.2 e (by omega)
    · intro h
      exact ⟨⟨h.1, fun e he => h.2 e (by omega)⟩, h.2 j (by omega)⟩
theorem gp_sv_bs {A B : Nat → Nat} {P s : Nat} : gp_sv A B P s 10 = gp_bs A B P s := by
  rw [Bool.eq_iff_iff, gp_sv_t, gp_bs_Y]
theorem yw_w70 {A B : Nat → Nat} {P k : Nat} {post : SY → Prop} {J : Int32 → (Nat → Int32) → (Nat → Int32) → (Nat → Int32) → (Nat → Int32) → (Nat → Int32) → (Nat → Int32) → (Nat → Int32) → Prop}
    {th on tw he fo pa : Nat → Int32} (hk : k < 1024) (hfo : ∀ s, s < 1024 → fo s = tb_B (gp_fo A B P s))
    (h : ∀ sp : Nat → Int32, (∀ s, s < k + 1 → sp s = tb_B (gp_bs A B P s)) → J (nI (k + 1)) th on tw he fo sp pa) :
    ∀ d j, j + d = 10 → ∀ sp : Nat → Int32, (∀ s, s < k → sp s = tb_B (gp_bs A B P s)) → sp k = tb_B (gp_sv A B P k j) → wY_work_70 post J (nI k) (d + 1) (nI j) th on tw he fo sp pa := by
  intro d
  induction d with
  | zero =>
    intro j hj sp hs hv
    have hj : j = 10 := by omega
    subst hj
    refine pk_le 10 10 (fun _ => nm_r (nI_1 k) (h sp ?_)) (fun z => absurd z (by omega))
    intro s hl
    by_cases hsk : s = k
    · rw [hsk, hv, gp_sv_bs]
    · exact hs s (by omega)
  | succ d ih =>
    intro j hj sp hs hv
    have hl : j < 10 := by omega
    have ik : vp_in (nI k) 1024 := vp_in_nI hk (by omega)
    have go : ∀ b : Bool, gp_sv A B P k (j + 1) = b → ∀ a : Nat → Int32, a = upd sp (nI k).toNatClampNeg (vp_nar .boolean (tb_B b)) → ∀ x : Int32, x = nI j + 1 → wY_work_70 post J (nI k) (d + 1) x th on tw he fo a pa := by
      intro b hb a ha x hx
      rw [hx, nI_1, ha, nI_clamp (by omega), tb_vb]
      refine ih (j + 1) (by omega) _ ?_ ?_
      · intro s hsl
        rw [pk_un (by omega)]
        exact hs s hsl
      · rw [pk_us, hb]
    have hsp : sp (nI k).toNatClampNeg = tb_B (gp_sv A B P k j) := by rw [nI_clamp (by omega)]; exact hv
    have hx : nI k ||| ((1 : Int32) <<< (nI j &&& 31)) = nI (k ||| 2 ^ j) := by rw [tb_shl j hl, tb_or]
    have hxl : k ||| 2 ^ j < 1024 := tb_or_lt hk (tb_pow hl)
    have hf : fo (nI k ||| ((1 : Int32) <<< (nI j &&& 31))).toNatClampNeg = tb_B (gp_fo A B P (k ||| 2 ^ j)) := by rw [hx, nI_clamp (by omega)]; exact hfo _ hxl
    refine pk_le 10 j (fun z => absurd z (by omega)) (fun _ => ⟨ik, tb_brE hsp (fun z => ⟨ik, go false ?_⟩) (fun z => tb_br1 (tb_shr hk hl) (fun z2 => ⟨ik, go true ?_⟩)
      (fun z2 => ⟨by rw [hx]; exact vp_in_nI hxl (by omega), tb_brE hf (fun z3 => ⟨ik, go true ?_⟩) (fun z3 => ⟨ik, go false ?_⟩)⟩))⟩)
    · rw [gp_sv, z]; rfl
    · rw [gp_sv, z, z2]; rfl
    · rw [gp_sv, z, z2, z3]; rfl
    · rw [gp_sv, z, z2, z3]; rfl
theorem yw_w49 {A B : Nat → Nat} {P : Nat} {post : SY → Prop} {th on tw he fo pa : Nat → Int32} (hfo : ∀ s, s < 1024 → fo s = tb_B (gp_fo A B P s))
    (h : ∀ sp : Nat → Int32, (∀ s, s < 1024 → sp s = tb_B (gp_bs A B P s)) → post (th, on, tw, he, fo, sp, pa)) :
    ∀ d k, k + d = 1024 → ∀ sp : Nat → Int32, (∀ s, s < k → sp s = tb_B (gp_bs A B P s)) → wY_work_49 post (d + 1) (nI k) th on tw he fo sp pa := by
  intro d
  induction d with
  | zero =>
    intro k hk sp hs
    exact pk_le 1024 k (fun _ => h sp (fun s hl => hs s (by omega))) (fun z => absurd z (by omega))
  | succ d ih =>
    intro k hk sp hs
    have hl : k < 1024 := by omega
    have ik : vp_in (nI k) 1024 := vp_in_nI hl (by omega)
    refine pk_le 1024 k (fun z => absurd z (by omega)) (fun _ => ⟨ik, ik, nm_r (e' := upd sp k (tb_B (gp_fo A B P k))) ?_ ⟨_, yw_w70 hl hfo (fun sp hs => ih (k + 1) (by omega) sp hs) 10 0 rfl _ ?_ pk_us⟩⟩)
    · rw [nI_clamp (by omega), hfo k hl, tb_vb]
    · intro s hsl
      rw [pk_un (by omega)]
      exact hs s hsl
theorem yw_w7 {A B : Nat → Nat} {P : Nat} {post : SY → Prop} {th he sp : Nat → Int32} (hA : ∀ e, A e < 6) (hB : ∀ e, B e < 6)
    (h : ∀ fo sp pa : Nat → Int32, (∀ s, s < 1024 → sp s = tb_B (gp_bs A B P s)) → post (th, gp_n A, gp_n B, he, fo, sp, pa)) :
    ∀ d k, k + d = 1024 → ∀ fo pa : Nat → Int32, (∀ s, s < k → fo s = tb_B (gp_fo A B P s)) → wY_work_7 post (nI P) (d + 1) (nI k) th (gp_n A) (gp_n B) he fo sp pa := by
  intro d
  induction d with
  | zero =>
    intro k hk fo pa hf
    exact pk_le 1024 k (fun _ => ⟨_, yw_w49 (fun s hl => hf s (by omega)) (fun sp hs => h fo sp pa hs) 1024 0 rfl sp (fun _ h => absurd h (by omega))⟩) (fun z => absurd z (by omega))
  | succ d ih =>
    intro k hk fo pa hf
    have hl : k < 1024 := by omega
    have ik : vp_in (nI k) 1024 := vp_in_nI hl (by omega)
    have go : ∀ b : Bool, gp_fo A B P k = b → ∀ q : Nat → Int32, ∀ a : Nat → Int32, a = upd fo (nI k).toNatClampNeg (vp_nar .boolean (tb_B b)) → ∀ x : Int32, x = nI k + 1 → wY_work_7 post (nI P) (d + 1) x th (gp_n A) (gp_n B) he a sp q := by
      intro b hb q a ha x hx
      rw [hx, nI_1, ha, nI_clamp (by omega), tb_vb]
      refine ih (k + 1) (by omega) _ q ?_
      intro s hsl
      by_cases hsk : s = k
      · subst hsk; rw [pk_us, hb]
      · rw [pk_un hsk]; exact hf s (by omega)
    refine pk_le 1024 k (fun z => absurd z (by omega)) (fun _ => br_c (fun z => yw_join hA hB hl (fun q hq => tb_br (fun z2 => ⟨ik, go false ?_ q⟩) (fun z2 => ⟨ik, go true ?_ q⟩))) (fun z => ⟨ik, go false ?_ pa⟩))
    · rw [gp_fo, z2, Bool.and_false]
    · rw [gp_fo, z2, gp_D_t.mpr ((tb_sub hl).mp z)]; rfl
    · rw [gp_fo, gp_D_f.mpr (fun y => z ((tb_sub hl).mpr y))]; rfl
theorem yw_work {A B : Nat → Nat} {P : Nat} {post : SY → Prop} {he fo sp pa : Nat → Int32} (hA : ∀ e, A e < 6) (hB : ∀ e, B e < 6) (hP : P < 1024)
    (h : ∀ fo sp pa : Nat → Int32, (∀ s, s < 1024 → sp s = tb_B (gp_bs A B P s)) → post (gp_th P, gp_n A, gp_n B, he, fo, sp, pa)) :
    wpY_work post (gp_th P, gp_n A, gp_n B, he, fo, sp, pa) :=
  yw_edges hP ⟨_, yw_w7 hA hB h 1024 0 rfl fo pa (fun _ h => absurd h (by omega))⟩
theorem yw_sum_l {C : Nat → Nat} {post : Int32 → Prop} {th on tw fo sp pa : Nat → Int32} {s : Nat} (hs : s < 1024) (h : post (nI (ws_sm C s.testBit 10))) :
    ∀ d k, k + d = 10 → wY_sum_4 post (nI s) th on tw (gp_n C) fo sp pa (d + 1) (nI (ws_sm C s.testBit k)) (nI k) := by
  intro d
  induction d with
  | zero =>
    intro k hk
    have hk : k = 10 := by omega
    subst hk
    exact pk_le 10 10 (fun _ => h) (fun z => absurd z (by omega))
  | succ d ih =>
    intro k hk
    refine pk_le 10 k (fun z => absurd z (by omega)) (fun _ => tb_br1 (tb_shr hs (by omega)) (fun z => ⟨vp_in_nI (by omega) (by omega), ?_⟩) (fun z => ?_))
    · have := ih (k + 1) (by omega)
      rw [ws_sm, if_pos z] at this
      exact nm_r (by rw [gp_n_at (by omega), nI_add]) (nm_r (nI_1 k) this)
    · have := ih (k + 1) (by omega)
      rw [ws_sm, z] at this
      exact nm_r (nI_add _ 0) (nm_r (nI_1 k) this)
theorem yw_sum {C : Nat → Nat} {post : Int32 → Prop} {th on tw fo sp pa : Nat → Int32} {s : Nat} (hs : s < 1024) (h : post (nI (ws_sm C s.testBit 10))) :
    wpY_sum post (th, on, tw, gp_n C, fo, sp, pa) (nI s) :=
  ⟨_, yw_sum_l hs h 10 0 rfl⟩
theorem yw_bf_l {post : Int32 → Prop} {th on tw he fo sp pa : Nat → Int32} {a b : Nat} (ha : a < 1024) (hb : b < 1024) :
    ∀ d k, k + d = 10 → post (tb_B (ws_lx a.testBit b.testBit d k)) → wY_before_34 post (nI a) (nI b) th on tw he fo sp pa (d + 1) (nI k) := by
  intro d
  induction d with
  | zero =>
    intro k hk h
    exact pk_le 10 k (fun _ => h) (fun z => absurd z (by omega))
  | succ d ih =>
    intro k hk h
    have hl : k < 10 := by omega
    rw [ws_lx] at h
    refine pk_le 10 k (fun z => absurd z (by omega)) (fun _ => br_c (fun z => ?_) (fun z => tb_br1 (tb_shr ha hl) (fun z2 => ?_) (fun z2 => ?_)))
    · rw [tb_shr ha hl, tb_shr hb hl, tb_Be] at z
      rw [if_pos z] at h
      exact nm_r (nI_1 k) (ih (k + 1) (by omega) h)
    · rw [tb_shr ha hl, tb_shr hb hl, tb_Be] at z
      rw [if_neg z, z2] at h
      exact h
    · rw [tb_shr ha hl, tb_shr hb hl, tb_Be] at z
      rw [if_neg z, z2] at h
      exact h
theorem yw_before {C : Nat → Nat} {post : Int32 → Prop} {th on tw fo sp pa : Nat → Int32} {a b : Nat} (hC : ∀ e, C e ≤ 50) (ha : a < 1024) (hb : b < 1024)
    (h : post (tb_B (ws_bf C a.testBit b.testBit))) : wpY_before post (th, on, tw, gp_n C, fo, sp, pa) (nI a) (nI b) := by
  have l1 : ws_sm C a.testBit 10 ≤ 10 * 50 := ws_le 10 (fun e _ => hC e)
  have l2 : ws_sm C b.testBit 10 ≤ 10 * 50 := ws_le 10 (fun e _ => hC e)
  unfold ws_bf at h
  refine yw_sum ha (yw_sum hb (pk_eq _ _ (fun z => ⟨_, yw_bf_l ha hb 10 0 rfl ?_⟩) (fun z => pk_le _ _ (fun z2 => ?_) (fun z2 => ?_) rfl rfl (by omega) (by omega)) rfl rfl (by omega) (by omega)))
  · rw [if_pos z] at h; exact h
  · rw [if_neg z, decide_eq_false (by omega)] at h; exact h
  · rw [if_neg z, decide_eq_true z2] at h; exact h
