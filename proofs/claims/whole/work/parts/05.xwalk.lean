/-! ===== the component's walks ===== -/
def gp_n (A : Nat → Nat) : Nat → Int32 := fun e => nI (A e)
theorem gp_n_at {A : Nat → Nat} {e : Nat} (he : e < 10) : gp_n A (nI e).toNatClampNeg = nI (A e) := by
  rw [nI_clamp (by omega)]; rfl
theorem tb_br {b : Bool} {X Y : Prop} (f : b = false → X) (g : b = true → Y) : (tb_B b = 0 → X) ∧ (¬ tb_B b = 0 → Y) :=
  ⟨fun h => f ((tb_B0 b).mp h), fun h => g (by cases b; exact absurd rfl h; rfl)⟩
theorem xw_cont {post : Int32 → Prop} {s e : Nat} (hs : s < 1024) (he : e < 10) (h : post (tb_B (s.testBit e))) : wpX_contains post (nI s) (nI e) :=
  br_f (nI_pos (by omega)) (pk_le 10 e (fun z => absurd z (by omega)) (fun _ => br_c
    (fun z => by rw [tb_has hs he] at z; rw [z] at h; exact h)
    (fun z => by
      rw [tb_has hs he, Bool.not_eq_false] at z
      rw [z] at h; exact h)))
theorem xw_cont_out {post : Int32 → Prop} {s x : Int32} (hx : x < 0 ∨ nI 10 ≤ x) (h : post 0) : wpX_contains post s x := by
  by_cases h0 : x < 0
  · exact br_t h0 h
  · exact br_f h0 (br_t (hx.resolve_left h0) h)
theorem xw_sep_l {post : SX → Prop} {pr : Int32} {ea eb co : Nat → Int32} (h : ∀ q : Nat → Int32, (∀ v, v < 6 → q v = nI v) → post (pr, ea, eb, co, q)) :
    ∀ d k, k + d = 6 → ∀ pa : Nat → Int32, (∀ v, v < k → pa v = nI v) → wX_separate_2 post pr (d + 1) (nI k) ea eb co pa := by
  intro d
  induction d with
  | zero =>
    intro k hk pa hp
    exact pk_le 6 k (fun _ => h pa (fun v hv => hp v (by omega))) (fun z => absurd z (by omega))
  | succ d ih =>
    intro k hk pa hp
    refine pk_le 6 k (fun z => absurd z (by omega)) (fun _ => ⟨vp_in_nI (by omega) (by omega), nm_r (e' := upd pa k (nI k)) (by rw [nI_clamp (by omega)]) (nm_r (nI_1 k) (ih (k + 1) (by omega) _ ?_))⟩)
    intro v hv
    by_cases hvk : v = k
    · subst hvk; exact pk_us
    · rw [pk_un hvk]; exact hp v (by omega)
theorem xw_sep {post : SX → Prop} {pr : Int32} {ea eb co pa : Nat → Int32} (h : ∀ q : Nat → Int32, (∀ v, v < 6 → q v = nI v) → post (pr, ea, eb, co, q)) :
    wpX_separate post (pr, ea, eb, co, pa) :=
  ⟨_, xw_sep_l h 6 0 rfl pa (fun _ h => absurd h (by omega))⟩
theorem xw_link_l {post : Int32 → SX → Prop} {pr : Int32} {ea eb co : Nat → Int32} {p : Nat → Nat} {a b : Nat} (hb : b < 6) (hp : ∀ v, v < 6 → p v < 6)
    (h : ∀ q : Nat → Int32, (∀ v, v < 6 → q v = nI (gp_mg p a b v)) → post 1 (pr, ea, eb, co, q)) :
    ∀ d k, k + d = 6 → ∀ pa : Nat → Int32, (∀ v, v < 6 → pa v = nI (if v < k then gp_mg p a b v else p v)) → wX_link_34 post (nI (p a)) (nI (p b)) pr (d + 1) (nI k) ea eb co pa := by
  intro d
  induction d with
  | zero =>
    intro k hk pa hq
    exact pk_le 6 k (fun _ => h pa (fun v hv => by rw [hq v hv, if_pos (by omega)])) (fun z => absurd z (by omega))
  | succ d ih =>
    intro k hk pa hq
    have hpk : pa (nI k).toNatClampNeg = nI (p k) := by rw [nI_clamp (by omega), hq k (by omega), if_neg (by omega)]
    have h1 := hp k (by omega)
    have h2 := hp b hb
    refine pk_le 6 k (fun z => absurd z (by omega)) (fun _ => ⟨vp_in_nI (by omega) (by omega), pk_eq (p k) (p b)
      (fun z => ⟨vp_in_nI (by omega) (by omega), nm_r (e' := upd pa k (nI (p a))) (by rw [nI_clamp (by omega)]) (nm_r (nI_1 k) (ih (k + 1) (by omega) _ ?_))⟩)
      (fun z => nm_r (nI_1 k) (ih (k + 1) (by omega) _ ?_)) hpk rfl (by omega) (by omega)⟩)
    · intro v hv
      by_cases hvk : v = k
      · subst hvk
        rw [pk_us, if_pos (by omega)]
        unfold gp_mg
        rw [if_pos z]
      · rw [pk_un hvk, hq v hv]
        by_cases hl : v < k
        · rw [if_pos hl, if_pos (by omega)]
        · rw [if_neg hl, if_neg (by omega)]
    · intro v hv
      rw [hq v hv]
      by_cases hvk : v = k
      · subst hvk
        rw [if_neg (by omega), if_pos (by omega)]
        unfold gp_mg
        rw [if_neg z]
      · by_cases hl : v < k
        · rw [if_pos hl, if_pos (by omega)]
        · rw [if_neg hl, if_neg (by omega)]
theorem xw_link {post : Int32 → SX → Prop} {pr : Int32} {A B : Nat → Nat} {co pa : Nat → Int32} {p : Nat → Nat} {e : Nat} (he : e < 10) (hA : ∀ e, A e < 6) (hB : ∀ e, B e < 6)
    (hp : ∀ v, v < 6 → p v < 6) (hq : ∀ v, v < 6 → pa v = nI (p v))
    (h : ∀ q : Nat → Int32, (∀ v, v < 6 → q v = nI (gp_mg p (A e) (B e) v)) → post (tb_B (!decide (p (A e) = p (B e)))) (pr, gp_n A, gp_n B, co, q)) :
    wpX_link post (pr, gp_n A, gp_n B, co, pa) (nI e) := by
  have ie : vp_in (nI e) 10 := vp_in_nI he (by omega)
  have hAe := hA e
  have hBe := hB e
  have h1 := hp _ hAe
  have h2 := hp _ hBe
  have eA : gp_n A (nI e).toNatClampNeg = nI (A e) := gp_n_at he
  have eB : gp_n B (nI e).toNatClampNeg = nI (B e) := gp_n_at he
  have pA : pa (gp_n A (nI e).toNatClampNeg).toNatClampNeg = nI (p (A e)) := by rw [eA, nI_clamp (by omega), hq _ hAe]
  have pB : pa (gp_n B (nI e).toNatClampNeg).toNatClampNeg = nI (p (B e)) := by rw [eB, nI_clamp (by omega), hq _ hBe]
  refine ⟨ie, by rw [eA]; exact vp_in_nI hAe (by omega), nm_r pA ⟨ie, by rw [eB]; exact vp_in_nI hBe (by omega), nm_r pB (pk_eq (p (A e)) (p (B e)) (fun z => ?_) (fun z => ?_) rfl rfl (by omega) (by omega))⟩⟩
  · have := h pa (fun v hv => by rw [hq v hv, gp_mg_id z])
    rw [decide_eq_true z] at this
    exact this
  · refine ⟨7, xw_link_l hBe hp ?_ 6 0 rfl pa (fun v hv => by rw [hq v hv, if_neg (by omega)])⟩
    intro q hq
    have := h q hq
    rw [decide_eq_false z] at this
    exact this
theorem xw_before {post : Int32 → Prop} {pr : Int32} {ea eb pa : Nat → Int32} {C : Nat → Nat} {e w f : Nat} (he : e < 10) (hf : f < 10) (hw : w < 1000) (hC : ∀ e, C e ≤ 50)
    (h : post (tb_B (gp_bf C e w f))) : wpX_goesBefore post (pr, ea, eb, gp_n C, pa) (nI f) (nI e) (nI w) := by
  have i : vp_in (nI f) 10 := vp_in_nI hf (by omega)
  have hc : gp_n C (nI f).toNatClampNeg = nI (C f) := gp_n_at hf
  have hl := hC f
  have k0 : gp_bf C e w f = false → post 0 := fun z => by rw [z] at h; exact h
  have k1 : gp_bf C e w f = true → post 1 := fun z => by rw [z] at h; exact h
  refine pk_eq f e (fun z => k0 (by simp [gp_bf, z])) (fun z1 => ⟨i, pk_lt (C f) w (fun z2 => k1 (by simp [gp_bf, z1, z2])) (fun z2 => ⟨i, pk_eq (C f) w
    (fun z3 => pk_le e f (fun z4 => k0 ?_) (fun z4 => k1 ?_)) (fun z3 => k0 ?_) hc rfl (by omega) (by omega)⟩) hc rfl (by omega) (by omega)⟩)
  · have : ¬ f < e := by omega
    simp [gp_bf, z3, this]
  · simp [gp_bf, z1, z3, z4]
  · have : ¬ C f < w := by omega
    simp [gp_bf, z3, this]
theorem xw_stands_l {A B C : Nat → Nat} {post : Int32 → SX → Prop} {pr : Int32} {am e w : Nat} (hA : ∀ e, A e < 6) (hB : ∀ e, B e < 6) (hC : ∀ e, C e ≤ 50)
    (ham : am < 1024) (he : e < 10) (hw : w < 1000)
    (h : ∀ q : Nat → Int32, post (tb_B (gp_st A B C am e w)) (pr, gp_n A, gp_n B, gp_n C, q)) :
    ∀ d k, k + d = 10 → ∀ pa : Nat → Int32, (∀ v, v < 6 → pa v = nI (gp_pt A B (gp_S C am e w) k v)) → wX_stands_7 post (nI e) (nI w) (nI am) (d + 1) (nI k) pr (gp_n A) (gp_n B) (gp_n C) pa := by
  intro d
  induction d with
  | zero =>
    intro k hk pa hq
    have hk : k = 10 := by omega
    subst hk
    have ie : vp_in (nI e) 10 := vp_in_nI he (by omega)
    have hAe := hA e
    have hBe := hB e
    have h1 := gp_pt_lt (B := B) hA (gp_S C am e w) 10 _ hAe
    have h2 := gp_pt_lt (B := B) hA (gp_S C am e w) 10 _ hBe
    have eA : gp_n A (nI e).toNatClampNeg = nI (A e) := gp_n_at he
    have eB : gp_n B (nI e).toNatClampNeg = nI (B e) := gp_n_at he
    have pA : pa (gp_n A (nI e).toNatClampNeg).toNatClampNeg = nI (gp_pt A B (gp_S C am e w) 10 (A e)) := by rw [eA, nI_clamp (by omega), hq _ hAe]
    have pB : pa (gp_n B (nI e).toNatClampNeg).toNatClampNeg = nI (gp_pt A B (gp_S C am e w) 10 (B e)) := by rw [eB, nI_clamp (by omega), hq _ hBe]
    refine pk_le 10 10 (fun _ => ⟨ie, by rw [eA]; exact vp_in_nI hAe (by omega), ie, by rw [eB]; exact vp_in_nI hBe (by omega), pk_eq _ _ (fun z => ?_) (fun z => ?_) pA pB (by omega) (by omega)⟩) (fun z => absurd z (by omega))
    · have := h pa
      unfold gp_st at this
      rw [decide_eq_true z] at this
      exact this
    · have := h pa
      unfold gp_st at this
      rw [decide_eq_false z] at this
      exact this
  | succ d ih =>
    intro k hk pa hq
    refine pk_le 10 k (fun z => absurd z (by omega)) (fun _ => xw_cont ham (by omega) (tb_br (fun z => ?_) (fun z => xw_before he (by omega) hw hC (tb_br (fun z2 => ?_)
      (fun z2 => xw_link (by omega) hA hB (gp_pt_lt hA (gp_S C am e w) k) hq ?_)))))
    · exact nm_r (nI_1 k) (ih (k + 1) (by omega) pa (fun v hv => by rw [hq v hv, gp_pt, if_neg (by simp [gp_S, z])]))
    · exact nm_r (nI_1 k) (ih (k + 1) (by omega) pa (fun v hv => by rw [hq v hv, gp_pt, if_neg (by simp [gp_S, z2])]))
    · intro q hq'
      exact nm_r (nI_1 k) (ih (k + 1) (by omega) q (fun v hv => by rw [hq' v hv, gp_pt, if_pos (by simp [gp_S, z, z2])]))
theorem xw_stands {A B C : Nat → Nat} {post : Int32 → SX → Prop} {pr x : Int32} {pa : Nat → Int32} {am e w : Nat} (hA : ∀ e, A e < 6) (hB : ∀ e, B e < 6) (hC : ∀ e, C e ≤ 50)
    (ham : am < 1024) (he : e < 10) (hw : w < 1000) (hx : x = nI w)
    (h : ∀ q : Nat → Int32, post (tb_B (gp_st A B C am e w)) (pr, gp_n A, gp_n B, gp_n C, q)) :
    wpX_stands post (pr, gp_n A, gp_n B, gp_n C, pa) (nI e) x (nI am) := by
  subst hx
  exact xw_sep (fun q hq => ⟨_, xw_stands_l hA hB hC ham he hw h 10 0 rfl q hq⟩)
theorem xw_chosen_l {A B C : Nat → Nat} {post : Int32 → SX → Prop} {pr : Int32} {am : Nat} (hA : ∀ e, A e < 6) (hB : ∀ e, B e < 6) (hC : ∀ e, C e ≤ 50)
    (ham : am < 1024) (h : ∀ q : Nat → Int32, post (nI (gp_G A B C am 10)) (pr, gp_n A, gp_n B, gp_n C, q)) :
    ∀ d k, k + d = 10 → ∀ pa : Nat → Int32, wX_chosenAmong_4 post (nI am) (d + 1) (nI (gp_G A B C am k)) (nI k) pr (gp_n A) (gp_n B) (gp_n C) pa := by
  intro d
  induction d with
  | zero =>
    intro k hk pa
    have hk : k = 10 := by omega
    subst hk
    exact pk_le 10 10 (fun _ => h pa) (fun z => absurd z (by omega))
  | succ d ih =>
    intro k hk pa
    have hc := hC k
    refine pk_le 10 k (fun z => absurd z (by omega)) (fun _ => xw_cont ham (by omega) (tb_br (fun z => ?_) (fun z => ⟨vp_in_nI (by omega) (by omega),
      xw_stands hA hB hC ham (by omega) (by omega) (gp_n_at (by omega)) (fun q => tb_br (fun z2 => ?_) (fun z2 => ?_))⟩)))
    · have := ih (k + 1) (by omega) pa
      rw [gp_G, tb_mk, if_neg (by simp [z])] at this
      exact nm_r (nI_1 k) this
    · have := ih (k + 1) (by omega) q
      rw [gp_G, tb_mk, if_neg (by simp [z2])] at this
      exact nm_r (nI_1 k) this
    · have := ih (k + 1) (by omega) q
      rw [gp_G, tb_mk, if_pos (by simp [z, z2]), ← tb_or, ← tb_shl k (by omega)] at this
      exact nm_e (nm_r (nI_1 k) this)
theorem xw_chosen {A B C : Nat → Nat} {post : Int32 → SX → Prop} {pr : Int32} {pa : Nat → Int32} {am : Nat} (hA : ∀ e, A e < 6) (hB : ∀ e, B e < 6) (hC : ∀ e, C e ≤ 50)
    (ham : am < 1024) (h : ∀ q : Nat → Int32, post (nI (gp_G A B C am 10)) (pr, gp_n A, gp_n B, gp_n C, q)) :
    wpX_chosenAmong post (pr, gp_n A, gp_n B, gp_n C, pa) (nI am) :=
  ⟨_, xw_chosen_l hA hB hC ham h 10 0 rfl pa⟩
theorem xw_weight_l {C : Nat → Nat} {post : Int32 → Prop} {pr : Int32} {ea eb pa : Nat → Int32} {s : Nat} (hs : s < 1024) (h : post (nI (ws_sm C s.testBit 10))) :
    ∀ d k, k + d = 10 → wX_weightOf_4 post (nI s) pr ea eb (gp_n C) pa (d + 1) (nI (ws_sm C s.testBit k)) (nI k) := by
  intro d
  induction d with
  | zero =>
    intro k hk
    have hk : k = 10 := by omega
    subst hk
    exact pk_le 10 10 (fun _ => h) (fun z => absurd z (by omega))
  | succ d ih =>
    intro k hk
    refine pk_le 10 k (fun z => absurd z (by omega)) (fun _ => xw_cont hs (by omega) (tb_br (fun z => ?_) (fun z => ⟨vp_in_nI (by omega) (by omega), ?_⟩)))
    · have := ih (k + 1) (by omega)
      rw [ws_sm, z] at this
      exact nm_r (nI_1 k) this
    · have := ih (k + 1) (by omega)
      rw [ws_sm, if_pos z] at this
      exact nm_r (by rw [gp_n_at (by omega), nI_add]) (nm_r (nI_1 k) this)
theorem xw_weight {C : Nat → Nat} {post : Int32 → Prop} {pr : Int32} {ea eb pa : Nat → Int32} {s : Nat} (hs : s < 1024) (h : post (nI (ws_sm C s.testBit 10))) :
    wpX_weightOf post (pr, ea, eb, gp_n C, pa) (nI s) :=
  ⟨_, xw_weight_l hs h 10 0 rfl⟩
theorem xw_size_l {post : Int32 → Prop} {s : Nat} (hs : s < 1024) (h : post (nI (ws_card s.testBit))) :
    ∀ d k, k + d = 10 → wX_sizeOf_4 post (nI s) (d + 1) (nI (ws_sm (fun _ => 1) s.testBit k)) (nI k) := by
  intro d
  induction d with
  | zero =>
    intro k hk
    have hk : k = 10 := by omega
    subst hk
    exact pk_le 10 10 (fun _ => h) (fun z => absurd z (by omega))
  | succ d ih =>
    intro k hk
    refine pk_le 10 k (fun z => absurd z (by omega)) (fun _ => xw_cont hs (by omega) (tb_br (fun z => ?_) (fun z => ?_)))
    · have := ih (k + 1) (by omega)
      rw [ws_sm, z] at this
      exact nm_r (nI_1 k) this
    · have := ih (k + 1) (by omega)
      rw [ws_sm, if_pos z] at this
      exact nm_r (nI_1 _) (nm_r (nI_1 k) this)
theorem xw_size {post : Int32 → Prop} {s : Nat} (hs : s < 1024) (h : post (nI (ws_card s.testBit))) : wpX_sizeOf post (nI s) :=
  ⟨_, xw_size_l hs h 10 0 rfl⟩
theorem gp_ok_f {A B : Nat → Nat} {S : Nat → Bool} {k : Nat} (h : gp_ok A B S k = false) : ∀ d, gp_ok A B S (k + d) = false := by
  intro d
  induction d with
  | zero => exact h
  | succ d ih => rw [← Nat.add_assoc, gp_ok, ih, Bool.false_and]
theorem xw_span_l {A B C : Nat → Nat} {post : Int32 → SX → Prop} {pr : Int32} {s : Nat} (hA : ∀ e, A e < 6) (hB : ∀ e, B e < 6)
    (hs : s < 1024) (h : ∀ q : Nat → Int32, post (tb_B (gp_ok A B s.testBit 10)) (pr, gp_n A, gp_n B, gp_n C, q)) :
    ∀ d k, k + d = 10 → gp_ok A B s.testBit k = true → ∀ pa : Nat → Int32, (∀ v, v < 6 → pa v = nI (gp_pt A B s.testBit k v)) → wX_isSpanningForest_27 post (nI s) (d + 1) (nI k) pr (gp_n A) (gp_n B) (gp_n C) pa := by
  intro d
  induction d with
  | zero =>
    intro k hk ho pa hq
    have hk : k = 10 := by omega
    subst hk
    rw [ho] at h
    exact pk_le 10 10 (fun _ => h pa) (fun z => absurd z (by omega))
  | succ d ih =>
    intro k hk ho pa hq
    refine pk_le 10 k (fun z => absurd z (by omega)) (fun _ => xw_cont hs (by omega) (tb_br (fun z => ?_) (fun z => xw_link (by omega) hA hB (gp_pt_lt hA s.testBit k) hq (fun q hq' => tb_br (fun z2 => ?_) (fun z2 => ?_)))))
    · exact nm_r (nI_1 k) (ih (k + 1) (by omega) (by rw [gp_ok, ho, z]; rfl) pa (fun v hv => by rw [hq v hv, gp_pt, if_neg (by simp [z])]))
    · have h1 : gp_ok A B s.testBit (k + 1) = false := by rw [gp_ok, z, z2]; simp
      have h2 := gp_ok_f h1 d
      rw [show k + 1 + d = 10 by omega] at h2
      rw [h2] at h
      exact h q
    · exact nm_r (nI_1 k) (ih (k + 1) (by omega) (by rw [gp_ok, ho, z, z2]; rfl) q (fun v hv => by rw [hq' v hv, gp_pt, if_pos z]))
theorem xw_span {A B C : Nat → Nat} {post : Int32 → SX → Prop} {pa : Nat → Int32} {P s : Nat} (hA : ∀ e, A e < 6) (hB : ∀ e, B e < 6) (hC : ∀ e, C e ≤ 50)
    (hs : s < 1024) (h : ∀ q : Nat → Int32, post (tb_B (gp_bs A B P s)) (nI P, gp_n A, gp_n B, gp_n C, q)) :
    wpX_isSpanningForest post (nI P, gp_n A, gp_n B, gp_n C, pa) (nI s) (nI (ws_card (gp_G A B C P 10).testBit)) := by
  have hX := gp_bs_X (A := A) (B := B) (fun e _ => hC e) P s
  have k0 : ¬ gp_bs A B P s = true → ∀ q, post 0 (nI P, gp_n A, gp_n B, gp_n C, q) := fun z q => by
    rw [Bool.not_eq_true] at z
    rw [z] at h; exact h q
  have l1 : ws_card s.testBit ≤ 10 * 1 := ws_le 10 (fun _ _ => Nat.le_refl _)
  have l2 : ws_card (gp_G A B C P 10).testBit ≤ 10 * 1 := ws_le 10 (fun _ _ => Nat.le_refl _)
  refine br_c (fun z => xw_size hs (pk_eq _ _ (fun z2 => xw_sep (fun q hq => ⟨_, xw_span_l hA hB hs ?_ 10 0 rfl rfl q hq⟩)) (fun z2 => k0 (fun y => z2 (hX.mp y).2.1) pa) rfl rfl (by omega) (by omega))) (fun z => k0 (fun y => z ((tb_sub hs).mpr (hX.mp y).1)) pa)
  intro q
  have : gp_bs A B P s = gp_ok A B s.testBit 10 := by
    rw [Bool.eq_iff_iff, hX]
    exact ⟨fun y => y.2.2, fun y => ⟨(tb_sub hs).mp z, z2, y⟩⟩
  rw [← this]
  exact h q
theorem xw_cheap {A B C : Nat → Nat} {post : Int32 → SX → Prop} {pa : Nat → Int32} {P s L : Nat} (hA : ∀ e, A e < 6) (hB : ∀ e, B e < 6) (hC : ∀ e, C e ≤ 50)
    (hs : s < 1024) (hL : L ≤ 500) (h : ∀ q : Nat → Int32, post (tb_B (gp_bs A B P s && decide (ws_sm C s.testBit 10 = L))) (nI P, gp_n A, gp_n B, gp_n C, q)) :
    wpX_isCheapestForest post (nI P, gp_n A, gp_n B, gp_n C, pa) (nI s) (nI (ws_card (gp_G A B C P 10).testBit)) (nI L) := by
  have l1 : ws_sm C s.testBit 10 ≤ 10 * 50 := ws_le 10 (fun e _ => hC e)
  refine xw_span hA hB hC hs (fun q => tb_br (fun z => ?_) (fun z => xw_weight hs (pk_eq _ _ (fun z2 => ?_) (fun z2 => ?_) rfl rfl (by omega) (by omega))))
  · have := h q
    rw [z] at this; exact this
  · have := h q
    rw [z, decide_eq_true z2] at this; exact this
  · have := h q
    rw [z, decide_eq_false z2] at this; exact this
