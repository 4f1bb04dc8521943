/-! ===== what is owed ===== -/
def i_Rel (k : Nat) (u : SX) (v : SY) : Prop := ∃ (P : Nat) (A B C : Nat → Nat) (pa fo sp pb : Nat → Int32), P < 1024 ∧ (∀ e, A e < 6) ∧ (∀ e, B e < 6) ∧ (∀ e, C e ≤ 50) ∧
  u = (nI P, gp_n A, gp_n B, gp_n C, pa) ∧ v = (gp_th P, gp_n A, gp_n B, gp_n C, fo, sp, pb)
theorem ow_rel {k P : Nat} {A B C : Nat → Nat} {pa fo sp pb : Nat → Int32} (hP : P < 1024) (hA : ∀ e, A e < 6) (hB : ∀ e, B e < 6) (hC : ∀ e, C e ≤ 50) :
    i_Rel k (nI P, gp_n A, gp_n B, gp_n C, pa) (gp_th P, gp_n A, gp_n B, gp_n C, fo, sp, pb) :=
  ⟨P, A, B, C, pa, fo, sp, pb, hP, hA, hB, hC, rfl, rfl⟩
theorem ow_bad {b : Bool} {X : Prop} (h0 : b = false) (h1 : b = true) : X := by
  rw [h0] at h1
  exact absurd h1 (by decide)
theorem ow_th0 : gp_th 0 = fun _ => 0 := by
  funext e
  unfold gp_th
  rw [Nat.zero_testBit]
  rfl
theorem ow_w (x : Int32) : x < 0 ∨ (¬ x < 0 ∧ 50 < x) ∨ ∃ j : Nat, j ≤ 50 ∧ x = nI j := by
  by_cases h : x < 0
  · exact Or.inl h
  · obtain ⟨j, hj, rfl⟩ := nI_of h
    by_cases h2 : j ≤ 50
    · exact Or.inr (Or.inr ⟨j, h2, rfl⟩)
    · exact Or.inr (Or.inl ⟨h, nI_lt (a := 50) (by omega) hj⟩)
theorem ow_v (x : Int32) : (x < 0 ∨ nI 6 ≤ x) ∨ ∃ j : Nat, j < 6 ∧ x = nI j := by
  rcases pk_ix x (n := 6) (by omega) with h | h | h
  · exact Or.inl (Or.inl h)
  · exact Or.inl (Or.inr h)
  · exact Or.inr h
theorem xw_isV_no {post : Int32 → Prop} {x : Int32} (hx : x < 0 ∨ nI 6 ≤ x) (h : post 0) : wpX_isVertex post x := by
  by_cases h0 : x < 0
  · exact br_t h0 h
  · exact br_f h0 (br_t (hx.resolve_left h0) h)
theorem xw_isV {post : Int32 → Prop} {j : Nat} (hj : j < 6) (h : post 1) : wpX_isVertex post (nI j) :=
  br_f (nI_pos (by omega)) (pk_le 6 j (fun z => absurd z (by omega)) (fun _ => h))
theorem yw_isV_no {post : Int32 → Prop} {v : SY} {x : Int32} (hx : x < 0 ∨ nI 6 ≤ x) (h : post 0) : wpY_vertex post v x := by
  by_cases h0 : x < 0
  · exact br_t h0 h
  · exact br_f h0 (br_t (hx.resolve_left h0) h)
theorem yw_isV {post : Int32 → Prop} {v : SY} {j : Nat} (hj : j < 6) (h : post 1) : wpY_vertex post v (nI j) :=
  br_f (nI_pos (by omega)) (pk_le 6 j (fun z => absurd z (by omega)) (fun _ => h))
theorem ow_n50 {x : Int32} (h : 50 < x) : ¬ x ≤ 50 := Int32.not_le.mpr h
theorem xw_chosen' {A B C : Nat → Nat} {post : Int32 → SX → Prop} {pr x : Int32} {pa : Nat → Int32} {am : Nat} (hA : ∀ e, A e < 6) (hB : ∀ e, B e < 6) (hC : ∀ e, C e ≤ 50)
    (ham : am < 1024) (hx : x = nI am) (h : ∀ q : Nat → Int32, post (nI (gp_G A B C am 10)) (pr, gp_n A, gp_n B, gp_n C, q)) :
    wpX_chosenAmong post (pr, gp_n A, gp_n B, gp_n C, pa) x := by
  subst hx
  exact xw_chosen hA hB hC ham h
theorem ow_cut {P e : Nat} (hP : P < 1024) : (tb_cut P e).testBit = st_del P.testBit e := by
  funext i
  unfold st_del
  rcases Nat.lt_or_ge i 10 with hi | hi
  · exact tb_cut_b hi
  · rw [tb_hi (tb_cut_lt hP) hi, tb_hi hP hi]
    rfl
theorem ow_back {P e : Nat} (hP : P < 1024) (he : e < 10) (hb : P.testBit e = true) : tb_cut P e ||| 2 ^ e = P := by
  refine tb_ext (tb_or_lt (tb_cut_lt hP) (tb_pow he)) hP ?_
  intro i hi
  rw [tb_or_b, tb_cut_b hi]
  by_cases h : i = e
  · subst h
    simp [hb]
  · have : ¬ e = i := fun z => h z.symm
    simp [h, this]
theorem ow_l52 {st : Nat → Bool} : yo_l st 52 = if st 51 = true then some 51 else yo_l st 51 := rfl
theorem ow_loss {A B C : Nat → Nat} {P e : Nat} (hC : ∀ e, C e ≤ 50) (hP : P < 1024) (he : e < 10) (hb : P.testBit e = true) :
    ws_card (gp_G A B C (tb_cut P e) 10).testBit < ws_card (gp_G A B C P 10).testBit ↔ yo_n (gp_bs A B P) e 1024 = true := by
  have h := gp_G_gr (A := A) (B := B) (C := C) (tb_cut P e)
  rw [ow_cut hP] at h
  rw [yo_n_t, gp_need he hb]
  exact gy_loss gp_ax (fun e _ => hC e) he hb (gp_G_gr P) h
theorem i_up {k : Nat} {u : SX} {v : SY} (h : i_Rel k u v) : i_Rel (k + 4) u v := h
theorem i_vc0 : wpX_init (fun u => wpY_init (fun v => i_Rel 0 u v)) :=
  ⟨0, fun _ => 0, fun _ => 0, fun _ => 0, fun _ => 0, fun _ => 0, fun _ => 0, fun _ => 0, by omega, fun _ => (by decide : 0 < 6), fun _ => (by decide : 0 < 6), fun _ => (by decide : 0 ≤ 50), rfl, by rw [ow_th0]; rfl⟩
theorem i_vc_add {k : Nat} {u : SX} {v : SY} (I : i_Rel k u v) (hk : k + 4 ≤ 2048) (v1 : Int32) (v2 : Int32) (v3 : Int32) : wpX_add (fun r u' => wpY_add (fun r' v' => r' = r ∧ i_Rel (k + 4) u' v') v v1 v2 v3) u v1 v2 v3 := by
  obtain ⟨P, A, B, C, pa, fo, sp, pb, hP, hA, hB, hC, rfl, rfl⟩ := I
  by_cases hab : v1 = v2
  · exact br_t hab (br_t hab ⟨rfl, ow_rel hP hA hB hC⟩)
  · rcases ow_v v1 with h1 | ⟨a, ha, rfl⟩
    · exact br_f hab (xw_isV_no h1 (br_t rfl (br_f hab (yw_isV_no h1 (br_t rfl ⟨rfl, ow_rel hP hA hB hC⟩)))))
    · rcases ow_v v2 with h2 | ⟨b, hb, rfl⟩
      · exact br_f hab (xw_isV ha (br_f (by decide) (xw_isV_no h2 (br_t rfl (br_f hab (yw_isV ha (br_f (by decide) (yw_isV_no h2 (br_t rfl ⟨rfl, ow_rel hP hA hB hC⟩)))))))))
      · refine br_f hab (xw_isV ha (br_f (by decide) (xw_isV hb (br_f (by decide) ?_))))
        rcases ow_w v3 with h3 | h3 | ⟨w, hw, rfl⟩
        · exact br_t h3 (br_t rfl (br_f hab (yw_isV ha (br_f (by decide) (yw_isV hb (br_f (by decide) (br_t h3 ⟨rfl, ow_rel hP hA hB hC⟩)))))))
        · exact br_f h3.1 (br_t h3.2 (br_t rfl (br_f hab (yw_isV ha (br_f (by decide) (yw_isV hb (br_f (by decide) (br_f h3.1 (br_f (ow_n50 h3.2) ⟨rfl, ow_rel hP hA hB hC⟩)))))))))
        · have hy : ∀ Q : Int32 → SY → Prop, (∃ n36 : Nat, wY_add_36 Q (nI a) (nI b) (nI w) (gp_th P) (gp_n A) (gp_n B) (gp_n C) fo sp pb n36 0) → wpY_add Q (gp_th P, gp_n A, gp_n B, gp_n C, fo, sp, pb) (nI a) (nI b) (nI w) :=
            fun Q h => br_f hab (yw_isV ha (br_f (by decide) (yw_isV hb (br_f (by decide) (br_f (nI_pos (by omega)) (pk_le w 50 (fun _ => h) (fun z => absurd z (by omega))))))))
          refine br_f (nI_pos (by omega)) (pk_lt 50 w (fun z => absurd z (by omega)) (fun _ => br_f (by decide) ⟨_, xw_add_l hP 10 0 rfl (fun z => hy _ ⟨_, yw_add_l 10 0 rfl (fun _ => ⟨rfl, ow_rel hP hA hB hC⟩) (fun e _ y => ?_)⟩) (fun e he z => hy _ ⟨_, yw_add_l 10 0 rfl (fun y => ?_) (fun e' _ y => ?_)⟩)⟩))
          · rw [z] at y
            exact absurd y (by simp)
          · rw [z] at y
            exact absurd y (by simp)
          · rw [z] at y
            injection y with y
            subst y
            exact ⟨rfl, ow_rel (tb_or_lt hP (tb_pow he)) (yo_u_lt hA ha) (yo_u_lt hB hb) (yo_u_le hC hw)⟩
theorem i_vc_remove {k : Nat} {u : SX} {v : SY} (I : i_Rel k u v) (hk : k + 4 ≤ 2048) (v1 : Int32) : wpX_remove (fun r u' => wpY_remove (fun r' v' => r' = r ∧ i_Rel (k + 4) u' v') v v1) u v1 := by
  obtain ⟨P, A, B, C, pa, fo, sp, pb, hP, hA, hB, hC, rfl, rfl⟩ := I
  rcases pk_ix v1 (n := 10) (by omega) with h | h | ⟨j, hj, rfl⟩
  · unfold wpX_remove wpY_remove
    exact xw_cont_out (Or.inl h) (br_t rfl (yw_is_out (Or.inl h) (br_t rfl ⟨rfl, ow_rel hP hA hB hC⟩)))
  · unfold wpX_remove wpY_remove
    exact xw_cont_out (Or.inr h) (br_t rfl (yw_is_out (Or.inr h) (br_t rfl ⟨rfl, ow_rel hP hA hB hC⟩)))
  · unfold wpX_remove wpY_remove
    refine xw_cont hP hj (tb_br (fun z => ?_) (fun z => ?_))
    · exact yw_is hj (tb_br (fun _ => ⟨rfl, ow_rel hP hA hB hC⟩) (fun y => ow_bad z y))
    · exact nm_r (tb_cutI hj) (yw_is hj (tb_br (fun y => ow_bad y z) (fun _ => ⟨vp_in_nI hj (by omega), nm_r (gp_th_cut hP hj) ⟨rfl, ow_rel (tb_cut_lt hP) hA hB hC⟩⟩)))
theorem i_vc_reweigh {k : Nat} {u : SX} {v : SY} (I : i_Rel k u v) (hk : k + 4 ≤ 2048) (v1 : Int32) (v2 : Int32) : wpX_reweigh (fun r u' => wpY_reweigh (fun r' v' => r' = r ∧ i_Rel (k + 4) u' v') v v1 v2) u v1 v2 := by
  obtain ⟨P, A, B, C, pa, fo, sp, pb, hP, hA, hB, hC, rfl, rfl⟩ := I
  rcases pk_ix v1 (n := 10) (by omega) with h | h | ⟨j, hj, rfl⟩
  · unfold wpX_reweigh wpY_reweigh
    exact xw_cont_out (Or.inl h) (br_t rfl (yw_is_out (Or.inl h) (br_t rfl ⟨rfl, ow_rel hP hA hB hC⟩)))
  · unfold wpX_reweigh wpY_reweigh
    exact xw_cont_out (Or.inr h) (br_t rfl (yw_is_out (Or.inr h) (br_t rfl ⟨rfl, ow_rel hP hA hB hC⟩)))
  · unfold wpX_reweigh wpY_reweigh
    refine xw_cont hP hj (tb_br (fun z => ?_) (fun z => ?_))
    · exact yw_is hj (tb_br (fun _ => ⟨rfl, ow_rel hP hA hB hC⟩) (fun y => ow_bad z y))
    · have ij : vp_in (nI j) 10 := vp_in_nI hj (by omega)
      rcases ow_w v2 with h3 | h3 | ⟨w, hw, rfl⟩
      · exact br_t h3 (br_t rfl (yw_is hj (tb_br (fun y => ow_bad y z) (fun _ => br_t h3 ⟨rfl, ow_rel hP hA hB hC⟩))))
      · exact br_f h3.1 (br_t h3.2 (br_t rfl (yw_is hj (tb_br (fun y => ow_bad y z) (fun _ => br_f h3.1 (br_f (ow_n50 h3.2) ⟨rfl, ow_rel hP hA hB hC⟩))))))
      · exact br_f (nI_pos (by omega)) (pk_lt 50 w (fun z => absurd z (by omega)) (fun _ => br_f (by decide) ⟨ij, nm_r (yo_u_n hj) (yw_is hj (tb_br (fun y => ow_bad y z) (fun _ => br_f (nI_pos (by omega)) (pk_le w 50 (fun _ => ⟨ij, nm_r (yo_u_n hj) ⟨rfl, ow_rel hP hA hB (yo_u_le hC hw)⟩⟩) (fun z => absurd z (by omega))))))⟩))
theorem i_vc_edges {k : Nat} {u : SX} {v : SY} (I : i_Rel k u v) (hk : k + 4 ≤ 2048) : wpX_edges (fun r => wpY_edges (fun r' => r' = r ∧ i_Rel (k + 4) u v) v) u := by
  obtain ⟨P, A, B, C, pa, fo, sp, pb, hP, hA, hB, hC, rfl, rfl⟩ := I
  exact yw_edges hP ⟨rfl, ow_rel hP hA hB hC⟩
theorem i_vc_weight {k : Nat} {u : SX} {v : SY} (I : i_Rel k u v) (hk : k + 4 ≤ 2048) (v1 : Int32) : wpX_weight (fun r => wpY_weight (fun r' => r' = r ∧ i_Rel (k + 4) u v) v v1) u v1 := by
  obtain ⟨P, A, B, C, pa, fo, sp, pb, hP, hA, hB, hC, rfl, rfl⟩ := I
  rcases pk_ix v1 (n := 10) (by omega) with h | h | ⟨j, hj, rfl⟩
  · unfold wpX_weight wpY_weight
    exact xw_cont_out (Or.inl h) (br_t rfl (yw_is_out (Or.inl h) (br_t rfl ⟨rfl, ow_rel hP hA hB hC⟩)))
  · unfold wpX_weight wpY_weight
    exact xw_cont_out (Or.inr h) (br_t rfl (yw_is_out (Or.inr h) (br_t rfl ⟨rfl, ow_rel hP hA hB hC⟩)))
  · unfold wpX_weight wpY_weight
    refine xw_cont hP hj (tb_br (fun z => ?_) (fun z => ?_))
    · exact yw_is hj (tb_br (fun _ => ⟨rfl, ow_rel hP hA hB hC⟩) (fun y => ow_bad z y))
    · exact ⟨vp_in_nI hj (by omega), yw_is hj (tb_br (fun y => ow_bad y z) (fun _ => ⟨vp_in_nI hj (by omega), rfl, ow_rel hP hA hB hC⟩))⟩
theorem i_vc_chosen {k : Nat} {u : SX} {v : SY} (I : i_Rel k u v) (hk : k + 4 ≤ 2048) : wpX_chosen (fun r u' => wpY_chosen (fun r' v' => r' = r ∧ i_Rel (k + 4) u' v') v) u := by
  obtain ⟨P, A, B, C, pa, fo, sp, pb, hP, hA, hB, hC, rfl, rfl⟩ := I
  unfold wpX_chosen
  dsimp only
  refine xw_chosen hA hB hC hP (fun q => ?_)
  exact yw_chosen hA hB hC hP (fun _ _ _ _ => ⟨rfl, ow_rel hP hA hB hC⟩)
theorem i_vc_total {k : Nat} {u : SX} {v : SY} (I : i_Rel k u v) (hk : k + 4 ≤ 2048) : wpX_total (fun r u' => wpY_total (fun r' v' => r' = r ∧ i_Rel (k + 4) u' v') v) u := by
  obtain ⟨P, A, B, C, pa, fo, sp, pb, hP, hA, hB, hC, rfl, rfl⟩ := I
  unfold wpX_total
  dsimp only
  refine xw_chosen hA hB hC hP (fun q => ?_)
  refine xw_weight gp_G_lt ?_
  exact yw_total hA hB hC hP (fun _ _ _ _ => ⟨rfl, ow_rel hP hA hB hC⟩)
theorem i_vc_limit {k : Nat} {u : SX} {v : SY} (I : i_Rel k u v) (hk : k + 4 ≤ 2048) (v1 : Int32) : wpX_limit (fun r u' => wpY_limit (fun r' v' => r' = r ∧ i_Rel (k + 4) u' v') v v1) u v1 := by
  obtain ⟨P, A, B, C, pa, fo, sp, pb, hP, hA, hB, hC, rfl, rfl⟩ := I
  rcases pk_ix v1 (n := 10) (by omega) with h | h | ⟨j, hj, rfl⟩
  · unfold wpX_limit wpY_limit
    exact xw_cont_out (Or.inl h) (br_t rfl (yw_is_out (Or.inl h) (br_t rfl ⟨rfl, ow_rel hP hA hB hC⟩)))
  · unfold wpX_limit wpY_limit
    exact xw_cont_out (Or.inr h) (br_t rfl (yw_is_out (Or.inr h) (br_t rfl ⟨rfl, ow_rel hP hA hB hC⟩)))
  · unfold wpX_limit
    refine xw_cont hP hj (tb_br (fun z => ?_) (fun z => ?_))
    · unfold wpY_limit
      exact yw_is hj (tb_br (fun _ => ⟨rfl, ow_rel hP hA hB hC⟩) (fun y => ow_bad z y))
    · refine ⟨_, xw_limit_l hA hB hC hP hj 52 (Nat.le_refl _) (fun q => ?_) pa⟩
      unfold wpY_limit
      dsimp only
      refine yw_is hj (tb_br (fun y => ow_bad y z) (fun _ => ?_))
      refine yw_work hA hB hP (fun fo sp pb hs => ?_)
      refine yw_need hj hs (tb_br (fun y => ⟨vp_in_nI hj (by omega), nm_r (gp_n_at hj) ⟨_, yw_limit_l hC hj z hs 51 (Nat.le_refl _) ⟨?_, ow_rel hP hA hB hC⟩ C (fun _ _ => rfl)⟩⟩) (fun y => ⟨?_, ow_rel hP hA hB hC⟩))
      · rw [ow_l52, gp_st51 hC hj z, y]
        rfl
      · rw [ow_l52, gp_st51 hC hj z, y]
        rfl
theorem i_vc_loss {k : Nat} {u : SX} {v : SY} (I : i_Rel k u v) (hk : k + 4 ≤ 2048) (v1 : Int32) : wpX_loss (fun r u' => wpY_loss (fun r' v' => r' = r ∧ i_Rel (k + 4) u' v') v v1) u v1 := by
  obtain ⟨P, A, B, C, pa, fo, sp, pb, hP, hA, hB, hC, rfl, rfl⟩ := I
  rcases pk_ix v1 (n := 10) (by omega) with h | h | ⟨j, hj, rfl⟩
  · unfold wpX_loss wpY_loss
    exact xw_cont_out (Or.inl h) (br_t rfl (yw_is_out (Or.inl h) (br_t rfl ⟨rfl, ow_rel hP hA hB hC⟩)))
  · unfold wpX_loss wpY_loss
    exact xw_cont_out (Or.inr h) (br_t rfl (yw_is_out (Or.inr h) (br_t rfl ⟨rfl, ow_rel hP hA hB hC⟩)))
  · unfold wpX_loss
    refine xw_cont hP hj (tb_br (fun z => ?_) (fun z => ?_))
    · unfold wpY_loss
      exact yw_is hj (tb_br (fun _ => ⟨rfl, ow_rel hP hA hB hC⟩) (fun y => ow_bad z y))
    · have hl := ow_loss (A := A) (B := B) hC hP hj z
      have l1 : ws_card (gp_G A B C (tb_cut P j) 10).testBit ≤ 10 * 1 := ws_le 10 (fun _ _ => Nat.le_refl _)
      have l2 : ws_card (gp_G A B C P 10).testBit ≤ 10 * 1 := ws_le 10 (fun _ _ => Nat.le_refl _)
      refine xw_chosen hA hB hC hP (fun q => ?_)
      refine xw_chosen' hA hB hC (tb_cut_lt hP) (tb_cutI hj) (fun q => ?_)
      refine xw_size gp_G_lt (xw_size gp_G_lt (pk_le _ _ (fun y => ?_) (fun y => ?_) rfl rfl (by omega) (by omega)))
      · refine xw_weight gp_G_lt (xw_weight gp_G_lt ?_)
        unfold wpY_loss
        dsimp only
        refine yw_is hj (tb_br (fun y => ow_bad y z) (fun _ => ?_))
        refine yw_total hA hB hC hP (fun fo sp pb hs => ?_)
        refine yw_need hj hs (tb_br (fun _ => ⟨vp_in_nI hj (by omega), nm_r (gp_th_cut hP hj) ?_⟩) (fun x => ?_))
        · refine yw_total hA hB hC (tb_cut_lt hP) (fun fo sp pb hs => ?_)
          exact ⟨vp_in_nI hj (by omega), nm_r ((gp_th_or hj).trans (by rw [ow_back hP hj z])) ⟨rfl, ow_rel hP hA hB hC⟩⟩
        · have := hl.mpr x
          omega
      · unfold wpY_loss
        dsimp only
        refine yw_is hj (tb_br (fun y => ow_bad y z) (fun _ => ?_))
        refine yw_total hA hB hC hP (fun fo sp pb hs => ?_)
        exact yw_need hj hs (tb_br (fun x => ow_bad x (hl.mp y)) (fun _ => ⟨rfl, ow_rel hP hA hB hC⟩))
theorem i_vc_second {k : Nat} {u : SX} {v : SY} (I : i_Rel k u v) (hk : k + 4 ≤ 2048) : wpX_second (fun r u' => wpY_second (fun r' v' => r' = r ∧ i_Rel (k + 4) u' v') v) u := by
  obtain ⟨P, A, B, C, pa, fo, sp, pb, hP, hA, hB, hC, rfl, rfl⟩ := I
  unfold wpX_second
  dsimp only
  refine xw_chosen hA hB hC hP (fun q => ?_)
  refine xw_size gp_G_lt ⟨_, xw_second_l hA hB hC (fun q => ?_) 1024 0 rfl q⟩
  unfold wpY_second
  dsimp only
  refine yw_chosen hA hB hC hP (fun fo sp pb hs => ?_)
  have hG : gp_G A B C P 10 < 1024 := gp_G_lt
  refine yw_best (nv := some (gp_G A B C P 10)) hC (fun b hb => by injection hb with hb; omega) hs ?_
  cases hb : yo_b C (gp_bs A B P) (some (gp_G A B C P 10)) 1024 with
  | none => exact br_f (by decide) ⟨rfl, ow_rel hP hA hB hC⟩
  | some b =>
    have hl := ((yo_b_spec 1024).2 b hb).1
    exact br_t (nI_pos' (by omega)) (yw_sum hl ⟨rfl, ow_rel hP hA hB hC⟩)
theorem i_vc_forests {k : Nat} {u : SX} {v : SY} (I : i_Rel k u v) (hk : k + 4 ≤ 2048) : wpX_forests (fun r u' => wpY_forests (fun r' v' => r' = r ∧ i_Rel (k + 4) u' v') v) u := by
  obtain ⟨P, A, B, C, pa, fo, sp, pb, hP, hA, hB, hC, rfl, rfl⟩ := I
  have hL : ws_sm C (gp_G A B C P 10).testBit 10 ≤ 500 := ws_le 10 (fun e _ => hC e)
  unfold wpX_forests
  dsimp only
  refine xw_chosen hA hB hC hP (fun q => ?_)
  refine xw_size gp_G_lt (xw_weight gp_G_lt ⟨_, xw_forests_l hA hB hC hL (fun q => ?_) 1024 0 rfl q⟩)
  unfold wpY_forests
  dsimp only
  refine yw_total hA hB hC hP (fun fo sp pb hs => ?_)
  exact ⟨_, yw_forests_l hC hL hs ⟨rfl, ow_rel hP hA hB hC⟩ 1024 0 rfl⟩
theorem i_vc_allForests {k : Nat} {u : SX} {v : SY} (I : i_Rel k u v) (hk : k + 4 ≤ 2048) : wpX_allForests (fun r u' => wpY_allForests (fun r' v' => r' = r ∧ i_Rel (k + 4) u' v') v) u := by
  obtain ⟨P, A, B, C, pa, fo, sp, pb, hP, hA, hB, hC, rfl, rfl⟩ := I
  unfold wpX_allForests
  dsimp only
  refine xw_chosen hA hB hC hP (fun q => ?_)
  refine xw_size gp_G_lt ⟨_, xw_all_l hA hB hC (fun q => ?_) 1024 0 rfl q⟩
  unfold wpY_allForests
  dsimp only
  refine yw_work hA hB hP (fun fo sp pb hs => ?_)
  exact ⟨_, yw_all_l hs ⟨rfl, ow_rel hP hA hB hC⟩ 1024 0 rfl⟩
theorem i_vc_narrowest {k : Nat} {u : SX} {v : SY} (I : i_Rel k u v) (hk : k + 4 ≤ 2048) (v1 : Int32) (v2 : Int32) : wpX_narrowest (fun r u' => wpY_narrowest (fun r' v' => r' = r ∧ i_Rel (k + 4) u' v') v v1 v2) u v1 v2 := by
  obtain ⟨P, A, B, C, pa, fo, sp, pb, hP, hA, hB, hC, rfl, rfl⟩ := I
  unfold wpX_narrowest wpY_narrowest
  rcases ow_v v1 with h1 | ⟨a, ha, rfl⟩
  · exact xw_isV_no h1 (br_t rfl (yw_isV_no h1 (br_t rfl ⟨rfl, ow_rel hP hA hB hC⟩)))
  · rcases ow_v v2 with h2 | ⟨b, hb, rfl⟩
    · exact xw_isV ha (br_f (by decide) (xw_isV_no h2 (br_t rfl (yw_isV ha (br_f (by decide) (yw_isV_no h2 (br_t rfl ⟨rfl, ow_rel hP hA hB hC⟩)))))))
    · exact xw_isV ha (br_f (by decide) (xw_isV hb (br_f (by decide) ⟨_, xw_narrow_l hA hB hC hP ha hb 51 0 rfl (fun q => yw_isV ha (br_f (by decide) (yw_isV hb (br_f (by decide) ⟨_, yw_narrow_l hA hB hC ha hb 51 0 rfl (fun _ => ⟨rfl, ow_rel hP hA hB hC⟩) pb⟩)))) pa⟩)))
theorem i_vc_possible {k : Nat} {u : SX} {v : SY} (I : i_Rel k u v) (hk : k + 4 ≤ 2048) : wpX_possible (fun r u' => wpY_possible (fun r' v' => r' = r ∧ i_Rel (k + 4) u' v') v) u := by
  obtain ⟨P, A, B, C, pa, fo, sp, pb, hP, hA, hB, hC, rfl, rfl⟩ := I
  have hL : ws_sm C (gp_G A B C P 10).testBit 10 ≤ 500 := ws_le 10 (fun e _ => hC e)
  unfold wpX_possible
  dsimp only
  refine xw_chosen hA hB hC hP (fun q => ?_)
  refine xw_size gp_G_lt (xw_weight gp_G_lt ⟨_, xw_possible_l hA hB hC hL (fun q => ?_) 1024 0 rfl q⟩)
  unfold wpY_possible
  dsimp only
  refine yw_total hA hB hC hP (fun fo sp pb hs => ?_)
  exact ⟨_, yw_possible_l hC hL hs ⟨rfl, ow_rel hP hA hB hC⟩ 1024 0 rfl⟩
theorem i_vc_certain {k : Nat} {u : SX} {v : SY} (I : i_Rel k u v) (hk : k + 4 ≤ 2048) : wpX_certain (fun r u' => wpY_certain (fun r' v' => r' = r ∧ i_Rel (k + 4) u' v') v) u := by
  obtain ⟨P, A, B, C, pa, fo, sp, pb, hP, hA, hB, hC, rfl, rfl⟩ := I
  have hL : ws_sm C (gp_G A B C P 10).testBit 10 ≤ 500 := ws_le 10 (fun e _ => hC e)
  unfold wpX_certain
  dsimp only
  refine xw_chosen hA hB hC hP (fun q => ?_)
  refine xw_size gp_G_lt (xw_weight gp_G_lt ⟨_, xw_certain_l hA hB hC hL (fun q => ?_) 1024 0 rfl q⟩)
  unfold wpY_certain
  dsimp only
  refine yw_total hA hB hC hP (fun fo sp pb hs => ?_)
  exact yw_edges hP ⟨_, yw_certain_l hC hL hs ⟨by rw [ct_cert hC]; rfl, ow_rel hP hA hB hC⟩ 1024 0 rfl⟩
