/-! ===== the walks over all sets ===== -/
section
variable {A B C : Nat → Nat} {P L : Nat}
theorem xw_forests_l {post : Int32 → SX → Prop} (hA : ∀ e, A e < 6) (hB : ∀ e, B e < 6) (hC : ∀ e, C e ≤ 50) (hL : L ≤ 500)
    (h : ∀ q : Nat → Int32, post (nI (ct_n (ct_f A B C P L) 1024)) (nI P, gp_n A, gp_n B, gp_n C, q)) :
    ∀ d k, k + d = 1024 → ∀ pa : Nat → Int32, wX_forests_26 post (nI (ws_card (gp_G A B C P 10).testBit)) (nI L) (d + 1) (nI (ct_n (ct_f A B C P L) k)) (nI k) (nI P) (gp_n A) (gp_n B) (gp_n C) pa := by
  intro d
  induction d with
  | zero =>
    intro k hk pa
    have hk : k = 1024 := by omega
    subst hk
    exact pk_le 1024 1024 (fun _ => h pa) (fun z => absurd z (by omega))
  | succ d ih =>
    intro k hk pa
    refine pk_le 1024 k (fun z => absurd z (by omega)) (fun _ => xw_cheap hA hB hC (by omega) hL (fun q => tb_br (fun z => ?_) (fun z => ?_)))
    · have := ih (k + 1) (by omega) q
      rw [ct_n, show ct_f A B C P L k = false from z] at this
      exact nm_r (nI_1 k) this
    · have := ih (k + 1) (by omega) q
      rw [ct_n, if_pos (show ct_f A B C P L k = true from z)] at this
      exact nm_r (nI_1 _) (nm_r (nI_1 k) this)
theorem xw_possible_l {post : Int32 → SX → Prop} (hA : ∀ e, A e < 6) (hB : ∀ e, B e < 6) (hC : ∀ e, C e ≤ 50) (hL : L ≤ 500)
    (h : ∀ q : Nat → Int32, post (nI (ct_o (ct_f A B C P L) 1024)) (nI P, gp_n A, gp_n B, gp_n C, q)) :
    ∀ d k, k + d = 1024 → ∀ pa : Nat → Int32, wX_possible_26 post (nI (ws_card (gp_G A B C P 10).testBit)) (nI L) (d + 1) (nI (ct_o (ct_f A B C P L) k)) (nI k) (nI P) (gp_n A) (gp_n B) (gp_n C) pa := by
  intro d
  induction d with
  | zero =>
    intro k hk pa
    have hk : k = 1024 := by omega
    subst hk
    exact pk_le 1024 1024 (fun _ => h pa) (fun z => absurd z (by omega))
  | succ d ih =>
    intro k hk pa
    refine pk_le 1024 k (fun z => absurd z (by omega)) (fun _ => xw_cheap hA hB hC (by omega) hL (fun q => tb_br (fun z => ?_) (fun z => ?_)))
    · have := ih (k + 1) (by omega) q
      rw [ct_o, show ct_f A B C P L k = false from z] at this
      exact nm_r (nI_1 k) this
    · have := ih (k + 1) (by omega) q
      rw [ct_o, if_pos (show ct_f A B C P L k = true from z)] at this
      exact nm_r (tb_or _ _) (nm_r (nI_1 k) this)
theorem xw_certain_l {post : Int32 → SX → Prop} {b : Nat} (hA : ∀ e, A e < 6) (hB : ∀ e, B e < 6) (hC : ∀ e, C e ≤ 50) (hL : L ≤ 500)
    (h : ∀ q : Nat → Int32, post (nI (ct_a (ct_f A B C P L) b 1024)) (nI P, gp_n A, gp_n B, gp_n C, q)) :
    ∀ d k, k + d = 1024 → ∀ pa : Nat → Int32, wX_certain_26 post (nI (ws_card (gp_G A B C P 10).testBit)) (nI L) (d + 1) (nI (ct_a (ct_f A B C P L) b k)) (nI k) (nI P) (gp_n A) (gp_n B) (gp_n C) pa := by
  intro d
  induction d with
  | zero =>
    intro k hk pa
    have hk : k = 1024 := by omega
    subst hk
    exact pk_le 1024 1024 (fun _ => h pa) (fun z => absurd z (by omega))
  | succ d ih =>
    intro k hk pa
    refine pk_le 1024 k (fun z => absurd z (by omega)) (fun _ => xw_cheap hA hB hC (by omega) hL (fun q => tb_br (fun z => ?_) (fun z => ?_)))
    · have := ih (k + 1) (by omega) q
      rw [ct_a, show ct_f A B C P L k = false from z] at this
      exact nm_r (nI_1 k) this
    · have := ih (k + 1) (by omega) q
      rw [ct_a, if_pos (show ct_f A B C P L k = true from z)] at this
      exact nm_r (nx_and _ _) (nm_r (nI_1 k) this)
theorem xw_all_l {post : Int32 → SX → Prop} (hA : ∀ e, A e < 6) (hB : ∀ e, B e < 6) (hC : ∀ e, C e ≤ 50)
    (h : ∀ q : Nat → Int32, post (nI (ct_n (gp_bs A B P) 1024)) (nI P, gp_n A, gp_n B, gp_n C, q)) :
    ∀ d k, k + d = 1024 → ∀ pa : Nat → Int32, wX_allForests_19 post (nI (ws_card (gp_G A B C P 10).testBit)) (d + 1) (nI (ct_n (gp_bs A B P) k)) (nI k) (nI P) (gp_n A) (gp_n B) (gp_n C) pa := by
  intro d
  induction d with
  | zero =>
    intro k hk pa
    have hk : k = 1024 := by omega
    subst hk
    exact pk_le 1024 1024 (fun _ => h pa) (fun z => absurd z (by omega))
  | succ d ih =>
    intro k hk pa
    refine pk_le 1024 k (fun z => absurd z (by omega)) (fun _ => xw_span hA hB hC (by omega) (fun q => tb_br (fun z => ?_) (fun z => ?_)))
    · have := ih (k + 1) (by omega) q
      rw [ct_n, z] at this
      exact nm_r (nI_1 k) this
    · have := ih (k + 1) (by omega) q
      rw [ct_n, if_pos z] at this
      exact nm_r (nI_1 _) (nm_r (nI_1 k) this)
def ws_w (C : Nat → Nat) (s : Nat) : Nat := ws_sm C s.testBit 10
theorem ws_bf_le {a b : Nat} (h : ws_bf C a.testBit b.testBit = true) : ws_w C a ≤ ws_w C b := by
  unfold ws_bf at h
  unfold ws_w
  by_cases z : ws_sm C a.testBit 10 = ws_sm C b.testBit 10
  · omega
  · rw [if_neg z, decide_eq_true_eq] at h; omega
theorem ws_bf_ge {a b : Nat} (h : ¬ ws_bf C a.testBit b.testBit = true) : ws_w C b ≤ ws_w C a := by
  unfold ws_bf at h
  unfold ws_w
  by_cases z : ws_sm C a.testBit 10 = ws_sm C b.testBit 10
  · omega
  · rw [if_neg z, decide_eq_true_eq] at h; omega
theorem xw_second_l {post : Int32 → SX → Prop} (hA : ∀ e, A e < 6) (hB : ∀ e, B e < 6) (hC : ∀ e, C e ≤ 50)
    (h : ∀ q : Nat → Int32, post (yo_I ((yo_b C (gp_bs A B P) (some (gp_G A B C P 10)) 1024).map (ws_w C))) (nI P, gp_n A, gp_n B, gp_n C, q)) :
    ∀ d k, k + d = 1024 → ∀ pa : Nat → Int32, wX_second_19 post (nI (gp_G A B C P 10)) (nI (ws_card (gp_G A B C P 10).testBit)) (d + 1)
      (yo_I ((yo_b C (gp_bs A B P) (some (gp_G A B C P 10)) k).map (ws_w C))) (nI k) (nI P) (gp_n A) (gp_n B) (gp_n C) pa := by
  have hG : gp_G A B C P 10 < 1024 := gp_G_lt
  intro d
  induction d with
  | zero =>
    intro k hk pa
    have hk : k = 1024 := by omega
    subst hk
    exact pk_le 1024 1024 (fun _ => h pa) (fun z => absurd z (by omega))
  | succ d ih =>
    intro k hk pa
    have hl : k < 1024 := by omega
    refine pk_le 1024 k (fun z => absurd z (by omega)) (fun _ => pk_eq k (gp_G A B C P 10) (fun z => ?_) (fun z => xw_span hA hB hC hl (fun q => tb_br (fun z2 => ?_) (fun z2 => xw_weight hl ?_))))
    · have := ih (k + 1) (by omega) pa
      rw [yo_b, if_neg (by simp [z])] at this
      exact nm_r (nI_1 k) this
    · have := ih (k + 1) (by omega) q
      rw [yo_b, if_neg (by simp [z2])] at this
      exact nm_r (nI_1 k) this
    · have hi := ih (k + 1) (by omega) q
      rw [yo_b, if_pos ⟨z2, fun y => z (by injection y with y; exact y.symm)⟩] at hi
      have l1 : ws_sm C k.testBit 10 ≤ 10 * 50 := ws_le 10 (fun e _ => hC e)
      cases hb : yo_b C (gp_bs A B P) (some (gp_G A B C P 10)) k with
      | none =>
        rw [hb] at hi
        exact br_t rfl (nm_r (nI_1 k) hi)
      | some b =>
        have l2 : ws_sm C b.testBit 10 ≤ 10 * 50 := ws_le 10 (fun e _ => hC e)
        rw [hb] at hi
        dsimp only at hi
        refine br_f (yo_ne (l := ws_w C b) (by unfold ws_w; omega)) (pk_le (ws_w C b) (ws_w C k) (fun z3 => nm_r (nI_1 k) ?_) (fun z3 => nm_r (nI_1 k) ?_) rfl rfl (by unfold ws_w; omega) (by unfold ws_w; omega))
        · by_cases hbf : ws_bf C k.testBit b.testBit = true
          · have := ws_bf_le hbf
            rw [if_pos hbf] at hi
            have e : ws_w C k = ws_w C b := by omega
            simp only [Option.map_some, e] at hi
            exact hi
          · rw [if_neg hbf] at hi
            exact hi
        · by_cases hbf : ws_bf C k.testBit b.testBit = true
          · rw [if_pos hbf] at hi
            exact hi
          · have := ws_bf_ge hbf
            omega
/-! the reference's -/
variable {th on tw fo sp pa : Nat → Int32}
theorem yw_forests_l {post : Int32 → SY → Prop} (hC : ∀ e, C e ≤ 50) (hL : L ≤ 500) (hsp : ∀ s, s < 1024 → sp s = tb_B (gp_bs A B P s))
    (h : post (nI (ct_n (ct_f A B C P L) 1024)) (th, on, tw, gp_n C, fo, sp, pa)) :
    ∀ d k, k + d = 1024 → wY_forests_9 post (nI L) th on tw (gp_n C) fo sp pa (d + 1) (nI (ct_n (ct_f A B C P L) k)) (nI k) := by
  intro d
  induction d with
  | zero =>
    intro k hk
    have hk : k = 1024 := by omega
    subst hk
    exact pk_le 1024 1024 (fun _ => h) (fun z => absurd z (by omega))
  | succ d ih =>
    intro k hk
    have hl : k < 1024 := by omega
    have hs : sp (nI k).toNatClampNeg = tb_B (gp_bs A B P k) := by rw [nI_clamp (by omega)]; exact hsp k hl
    have l1 : ws_sm C k.testBit 10 ≤ 10 * 50 := ws_le 10 (fun e _ => hC e)
    have hi := ih (k + 1) (by omega)
    rw [ct_n] at hi
    refine pk_le 1024 k (fun z => absurd z (by omega)) (fun _ => ⟨vp_in_nI hl (by omega), tb_brE hs (fun z => ?_) (fun z => yw_sum hl (pk_eq _ L (fun z2 => ?_) (fun z2 => ?_) rfl rfl (by omega) (by omega)))⟩)
    · rw [ct_f, z] at hi
      exact nm_r (nI_add _ 0) (nm_r (nI_1 k) hi)
    · rw [ct_f, z, decide_eq_true z2] at hi
      exact nm_r (nI_1 _) (nm_r (nI_1 k) hi)
    · rw [ct_f, z, decide_eq_false z2] at hi
      exact nm_r (nI_add _ 0) (nm_r (nI_1 k) hi)
theorem yw_possible_l {post : Int32 → SY → Prop} (hC : ∀ e, C e ≤ 50) (hL : L ≤ 500) (hsp : ∀ s, s < 1024 → sp s = tb_B (gp_bs A B P s))
    (h : post (nI (ct_o (ct_f A B C P L) 1024)) (th, on, tw, gp_n C, fo, sp, pa)) :
    ∀ d k, k + d = 1024 → wY_possible_9 post (nI L) th on tw (gp_n C) fo sp pa (d + 1) (nI (ct_o (ct_f A B C P L) k)) (nI k) := by
  intro d
  induction d with
  | zero =>
    intro k hk
    have hk : k = 1024 := by omega
    subst hk
    exact pk_le 1024 1024 (fun _ => h) (fun z => absurd z (by omega))
  | succ d ih =>
    intro k hk
    have hl : k < 1024 := by omega
    have hs : sp (nI k).toNatClampNeg = tb_B (gp_bs A B P k) := by rw [nI_clamp (by omega)]; exact hsp k hl
    have l1 : ws_sm C k.testBit 10 ≤ 10 * 50 := ws_le 10 (fun e _ => hC e)
    have hi := ih (k + 1) (by omega)
    rw [ct_o] at hi
    refine pk_le 1024 k (fun z => absurd z (by omega)) (fun _ => ⟨vp_in_nI hl (by omega), tb_brE hs (fun z => ?_) (fun z => yw_sum hl (pk_eq _ L (fun z2 => ?_) (fun z2 => ?_) rfl rfl (by omega) (by omega)))⟩)
    · rw [ct_f, z] at hi
      exact nm_r (nI_1 k) hi
    · rw [ct_f, z, decide_eq_true z2] at hi
      exact nm_r (tb_or _ _) (nm_r (nI_1 k) hi)
    · rw [ct_f, z, decide_eq_false z2] at hi
      exact nm_r (nI_1 k) hi
theorem yw_certain_l {post : Int32 → SY → Prop} {b : Nat} (hC : ∀ e, C e ≤ 50) (hL : L ≤ 500) (hsp : ∀ s, s < 1024 → sp s = tb_B (gp_bs A B P s))
    (h : post (nI (ct_a (ct_f A B C P L) b 1024)) (th, on, tw, gp_n C, fo, sp, pa)) :
    ∀ d k, k + d = 1024 → wY_certain_12 post (nI L) th on tw (gp_n C) fo sp pa (d + 1) (nI (ct_a (ct_f A B C P L) b k)) (nI k) := by
  intro d
  induction d with
  | zero =>
    intro k hk
    have hk : k = 1024 := by omega
    subst hk
    exact pk_le 1024 1024 (fun _ => h) (fun z => absurd z (by omega))
  | succ d ih =>
    intro k hk
    have hl : k < 1024 := by omega
    have hs : sp (nI k).toNatClampNeg = tb_B (gp_bs A B P k) := by rw [nI_clamp (by omega)]; exact hsp k hl
    have l1 : ws_sm C k.testBit 10 ≤ 10 * 50 := ws_le 10 (fun e _ => hC e)
    have hi := ih (k + 1) (by omega)
    rw [ct_a] at hi
    refine pk_le 1024 k (fun z => absurd z (by omega)) (fun _ => ⟨vp_in_nI hl (by omega), tb_brE hs (fun z => ?_) (fun z => yw_sum hl (pk_eq _ L (fun z2 => ?_) (fun z2 => ?_) rfl rfl (by omega) (by omega)))⟩)
    · rw [ct_f, z] at hi
      exact nm_r (nI_1 k) hi
    · rw [ct_f, z, decide_eq_true z2] at hi
      exact nm_r (nx_and _ _) (nm_r (nI_1 k) hi)
    · rw [ct_f, z, decide_eq_false z2] at hi
      exact nm_r (nI_1 k) hi
theorem yw_all_l {post : Int32 → SY → Prop} {he : Nat → Int32} (hsp : ∀ s, s < 1024 → sp s = tb_B (gp_bs A B P s))
    (h : post (nI (ct_n (gp_bs A B P) 1024)) (th, on, tw, he, fo, sp, pa)) :
    ∀ d k, k + d = 1024 → wY_allForests_8 post th on tw he fo sp pa (d + 1) (nI (ct_n (gp_bs A B P) k)) (nI k) := by
  intro d
  induction d with
  | zero =>
    intro k hk
    have hk : k = 1024 := by omega
    subst hk
    exact pk_le 1024 1024 (fun _ => h) (fun z => absurd z (by omega))
  | succ d ih =>
    intro k hk
    have hl : k < 1024 := by omega
    have hs : sp (nI k).toNatClampNeg = tb_B (gp_bs A B P k) := by rw [nI_clamp (by omega)]; exact hsp k hl
    have hi := ih (k + 1) (by omega)
    rw [ct_n] at hi
    refine pk_le 1024 k (fun z => absurd z (by omega)) (fun _ => ⟨vp_in_nI hl (by omega), tb_brE hs (fun z => ?_) (fun z => ?_)⟩)
    · rw [z] at hi
      exact nm_r (nI_add _ 0) (nm_r (nI_1 k) hi)
    · rw [z] at hi
      exact nm_r (nI_1 _) (nm_r (nI_1 k) hi)
end
