/-! ===== sums over a set, the order of sets, the greedy set is the first of all bases ===== -/
def ws_sm (w : Nat → Nat) (S : Nat → Bool) : Nat → Nat
  | 0 => 0
  | k + 1 => ws_sm w S k + (if S k = true then w k else 0)
theorem ws_congr {w : Nat → Nat} {S T : Nat → Bool} : ∀ k, (∀ e, e < k → S e = T e) → ws_sm w S k = ws_sm w T k := by
  intro k
  induction k with
  | zero => intro _; rfl
  | succ k ih =>
    intro h
    rw [ws_sm, ws_sm, ih (fun e he => h e (by omega)), h k (by omega)]
theorem ws_congw {w x : Nat → Nat} {S : Nat → Bool} : ∀ k, (∀ e, e < k → w e = x e) → ws_sm w S k = ws_sm x S k := by
  intro k
  induction k with
  | zero => intro _; rfl
  | succ k ih =>
    intro h
    rw [ws_sm, ws_sm, ih (fun e he => h e (by omega)), h k (by omega)]
theorem ws_ins (w : Nat → Nat) {S : Nat → Bool} {e : Nat} (hs : S e = false) : ∀ k, e < k → ws_sm w (st_ins S e) k = ws_sm w S k + w e := by
  intro k
  induction k with
  | zero => intro h; omega
  | succ k ih =>
    intro h
    rw [ws_sm, ws_sm]
    by_cases hek : e = k
    · subst hek
      rw [ws_congr (S := st_ins S e) (T := S) e (fun x hx => by simp [st_ins]; omega), if_pos (st_ins_t.mpr (Or.inr rfl)), hs]
      simp
    · rw [ih (by omega)]
      have : st_ins S e k = S k := by
        simp [st_ins]
        intro z
        exact absurd z.symm hek
      rw [this]
      omega
theorem ws_del (w : Nat → Nat) {S : Nat → Bool} {e k : Nat} (hs : S e = true) (hk : e < k) : ws_sm w (st_del S e) k + w e = ws_sm w S k := by
  have h := ws_ins w (S := st_del S e) (e := e) (by simp [st_del]) k hk
  rw [← h]
  apply ws_congr
  intro x _
  by_cases hx : x = e
  · subst hx; rw [st_ins_t.mpr (Or.inr rfl), hs]
  · simp [st_ins, st_del, hx]
theorem ws_swap (w : Nat → Nat) {T : Nat → Bool} {e y k : Nat} (ht : T e = false) (hy : T y = true) (he : e < k) (hk : y < k) :
    ws_sm w (st_ins (st_del T y) e) k + w y = ws_sm w T k + w e := by
  have h1 := ws_ins w (S := st_del T y) (e := e) (by simp [st_del, ht]) k he
  have h2 := ws_del w hy hk
  omega
theorem ws_mono {w : Nat → Nat} {S T : Nat → Bool} : ∀ k, (∀ e, e < k → S e = true → T e = true) → ws_sm w S k ≤ ws_sm w T k := by
  intro k
  induction k with
  | zero => intro _; exact Nat.le_refl _
  | succ k ih =>
    intro h
    have h1 := ih (fun e he => h e (by omega))
    rw [ws_sm, ws_sm]
    cases hs : S k
    · simp; omega
    · rw [h k (by omega) hs]; simp; exact h1
theorem ws_le {w : Nat → Nat} {S : Nat → Bool} {m : Nat} : ∀ k, (∀ e, e < k → w e ≤ m) → ws_sm w S k ≤ k * m := by
  intro k
  induction k with
  | zero => intro _; exact Nat.zero_le _
  | succ k ih =>
    intro h
    have h1 := ih (fun e he => h e (by omega))
    have h2 := h k (by omega)
    rw [ws_sm, Nat.succ_mul]
    cases S k
    · simp; omega
    · simp; omega
def ws_card (S : Nat → Bool) : Nat := ws_sm (fun _ => 1) S 10
/-- of two sets of the same weight: the one that has the first edge in which they differ -/
def ws_lx (a b : Nat → Bool) : Nat → Nat → Bool
  | 0, _ => false
  | d + 1, j => if a j = b j then ws_lx a b d (j + 1) else a j
def ws_nb (S : Nat → Bool) : Nat → Nat → Nat
  | 0, _ => 0
  | d + 1, j => (if S j = true then 0 else 2 ^ d) + ws_nb S d (j + 1)
theorem ws_nb_lt (S : Nat → Bool) : ∀ d j, ws_nb S d j < 2 ^ d := by
  intro d
  induction d with
  | zero => intro j; exact Nat.one_pos
  | succ d ih =>
    intro j
    have := ih (j + 1)
    rw [ws_nb, Nat.pow_succ]
    by_cases h : S j = true
    · rw [if_pos h]; omega
    · rw [if_neg h]; omega
theorem ws_lx_nb (a b : Nat → Bool) : ∀ d j, ws_lx a b d j = true ↔ ws_nb a d j < ws_nb b d j := by
  intro d
  induction d with
  | zero => intro j; simp [ws_lx, ws_nb]
  | succ d ih =>
    intro j
    have ha := ws_nb_lt a d (j + 1)
    have hb := ws_nb_lt b d (j + 1)
    have h := ih (j + 1)
    rw [ws_lx, ws_nb, ws_nb]
    cases hA : a j <;> cases hB : b j
    · simp [h]
    · simp; omega
    · simp; omega
    · simp [h]
theorem ws_lx_first {a b : Nat → Bool} {e : Nat} (ha : a e = true) (hb : b e = false) : ∀ d j, (∀ i, j ≤ i → i < e → a i = b i) → j ≤ e → e < j + d → ws_lx a b d j = true := by
  intro d
  induction d with
  | zero => intro j _ h1 h2; omega
  | succ d ih =>
    intro j h h1 h2
    rw [ws_lx]
    by_cases hj : j = e
    · subst hj; rw [ha, hb]; rfl
    · rw [if_pos (h j (Nat.le_refl _) (by omega))]
      exact ih (j + 1) (fun i hi hie => h i (by omega) hie) (by omega) (by omega)
theorem ws_nb_congr {a b : Nat → Bool} : ∀ d j, (∀ i, j ≤ i → i < j + d → a i = b i) → ws_nb a d j = ws_nb b d j := by
  intro d
  induction d with
  | zero => intro j _; rfl
  | succ d ih =>
    intro j h
    rw [ws_nb, ws_nb, h j (Nat.le_refl _) (by omega), ih (j + 1) (fun i h1 h2 => h i (by omega) (by omega))]
def ws_key (C : Nat → Nat) (S : Nat → Bool) : Nat := 1024 * ws_sm C S 10 + ws_nb S 10 0
def ws_bf (C : Nat → Nat) (a b : Nat → Bool) : Bool :=
  if ws_sm C a 10 = ws_sm C b 10 then ws_lx a b 10 0 else decide (ws_sm C a 10 < ws_sm C b 10)
theorem ws_bf_key (C : Nat → Nat) (a b : Nat → Bool) : ws_bf C a b = true ↔ ws_key C a < ws_key C b := by
  have ha : ws_nb a 10 0 < 1024 := ws_nb_lt a 10 0
  have hb : ws_nb b 10 0 < 1024 := ws_nb_lt b 10 0
  unfold ws_bf ws_key
  by_cases h : ws_sm C a 10 = ws_sm C b 10
  · rw [if_pos h, ws_lx_nb]; omega
  · rw [if_neg h, decide_eq_true_eq]; omega
theorem ws_key_congr (C : Nat → Nat) {a b : Nat → Bool} (h : ∀ e, e < 10 → a e = b e) : ws_key C a = ws_key C b := by
  rw [ws_key, ws_key, ws_congr 10 h, ws_nb_congr 10 0 (fun i _ hi => h i (by omega))]
def ws_o (C : Nat → Nat) (e : Nat) : Nat := C e * 16 + e
theorem ws_o_inj (C : Nat → Nat) : ∀ e g, e < 10 → g < 10 → ws_o C e = ws_o C g → e = g := by
  intro e g he hg h
  unfold ws_o at h
  omega
theorem ws_o_b {C : Nat → Nat} (hC : ∀ e, e < 10 → C e ≤ 50) : ∀ e, e < 10 → ws_o C e < 1000 := by
  intro e he
  have := hC e he
  unfold ws_o
  omega
theorem ws_step {C : Nat → Nat} {T : Nat → Bool} {e y : Nat} (he : e < 10) (hy : y < 10) (ht : T e = false) (hTy : T y = true) (ho : ws_o C e < ws_o C y) :
    ws_key C (st_ins (st_del T y) e) < ws_key C T := by
  rw [← ws_bf_key]
  have hs := ws_swap C ht hTy he hy
  unfold ws_o at ho
  have h1 : C e ≤ C y := by omega
  unfold ws_bf
  by_cases h : ws_sm C (st_ins (st_del T y) e) 10 = ws_sm C T 10
  · rw [if_pos h]
    have h2 : C e = C y := by omega
    have h3 : e < y := by omega
    refine ws_lx_first (e := e) (st_ins_t.mpr (Or.inr rfl)) ht 10 0 ?_ (Nat.zero_le _) (by omega)
    intro i _ hi
    have i1 : i ≠ e := by omega
    have i2 : i ≠ y := by omega
    simp [st_ins, st_del, i1, i2]
  · rw [if_neg h, decide_eq_true_eq]
    omega
section
variable {cl : (Nat → Bool) → Nat → Prop}
/-- every basis has as many edges as the greedy one, and comes behind it if it is another -/
theorem gy_main (ax : mt_ax cl) {P G : Nat → Bool} {C : Nat → Nat} (hC : ∀ e, e < 10 → C e ≤ 50) (hG : mt_gr cl P (ws_o C) G) :
    ∀ n T, ws_key C T < n → mt_bas cl P T → ws_card T = ws_card G ∧ ((∀ e, e < 10 → T e = G e) ∨ ws_key C G < ws_key C T) := by
  have hGb := mt_gr_bas ax (ws_o_b hC) (ws_o_inj C) hG
  intro n
  induction n with
  | zero => intro T h; omega
  | succ n ih =>
    intro T hn hT
    by_cases hd : ∃ e, e < 10 ∧ G e = true ∧ T e = false
    · obtain ⟨e, he, hg, ht⟩ := hd
      obtain ⟨y, hy, hTy, ho, hb⟩ := mt_swap ax (ws_o_inj C) hG hT he hg ht
      have hk := ws_step he hy ht hTy ho
      have hc : ws_card (st_ins (st_del T y) e) = ws_card T := by
        have := ws_swap (fun _ => 1) ht hTy he hy
        unfold ws_card
        omega
      obtain ⟨h1, h2⟩ := ih _ (by omega) hb
      refine ⟨by omega, Or.inr ?_⟩
      rcases h2 with h2 | h2
      · rw [← ws_key_congr C h2]; exact hk
      · omega
    · have hs : ∀ e, e < 10 → T e = G e := by
        refine mt_same ax hGb hT ?_
        intro e he hg
        cases ht : T e
        · exact absurd ⟨e, he, hg, ht⟩ hd
        · rfl
      exact ⟨ws_congr 10 hs, Or.inl hs⟩
theorem gy_card (ax : mt_ax cl) {P G T : Nat → Bool} {C : Nat → Nat} (hC : ∀ e, e < 10 → C e ≤ 50) (hG : mt_gr cl P (ws_o C) G) (hT : mt_bas cl P T) : ws_card T = ws_card G :=
  (gy_main ax hC hG _ T (Nat.lt_succ_self _) hT).1
theorem gy_first (ax : mt_ax cl) {P G T : Nat → Bool} {C : Nat → Nat} (hC : ∀ e, e < 10 → C e ≤ 50) (hG : mt_gr cl P (ws_o C) G) (hT : mt_bas cl P T) : (∀ e, e < 10 → T e = G e) ∨ ws_key C G < ws_key C T :=
  (gy_main ax hC hG _ T (Nat.lt_succ_self _) hT).2
theorem gy_ext (ax : mt_ax cl) {P : Nat → Bool} : ∀ n I, 10 - ws_card I < n → st_sub I P → mt_ind cl I → ∃ T, mt_bas cl P T ∧ st_sub I T := by
  intro n
  induction n with
  | zero => intro I h; omega
  | succ n ih =>
    intro I hn hs hi
    by_cases hx : ∃ p, p < 10 ∧ P p = true ∧ ¬ cl I p
    · obtain ⟨p, hp, hPp, hc⟩ := hx
      have hIp : I p = false := by
        cases h : I p
        · rfl
        · exact absurd (ax.2.1 I p hp h) hc
      have h1 : ws_card (st_ins I p) = ws_card I + 1 := ws_ins (fun _ => 1) hIp 10 hp
      have h2 : ws_card (st_ins I p) ≤ 10 * 1 := ws_le 10 (fun _ _ => Nat.le_refl _)
      obtain ⟨T, hT, hsT⟩ := ih (st_ins I p) (by omega) (by
        intro x hx hm
        rw [st_ins_t] at hm
        rcases hm with hm | hm
        · exact hs x hx hm
        · rw [hm]; exact hPp) (mt_ind_ins ax hi hp hc)
      exact ⟨T, hT, fun x hx hm => hsT x hx (st_ins_t.mpr (Or.inl hm))⟩
    · refine ⟨I, ⟨hs, hi, ?_⟩, fun _ _ h => h⟩
      intro e he hP
      refine Classical.byContradiction fun hc => ?_
      exact hx ⟨e, he, hP, hc⟩
/-- an independent set of the greedy one's size is a basis -/
theorem gy_size (ax : mt_ax cl) {P G I : Nat → Bool} {C : Nat → Nat} (hC : ∀ e, e < 10 → C e ≤ 50) (hG : mt_gr cl P (ws_o C) G)
    (hs : st_sub I P) (hi : mt_ind cl I) (hc : ws_card I = ws_card G) : mt_bas cl P I := by
  refine ⟨hs, hi, ?_⟩
  intro p hp hPp
  refine Classical.byContradiction fun hn => ?_
  have hIp : I p = false := by
    cases h : I p
    · rfl
    · exact absurd (ax.2.1 I p hp h) hn
  have h1 : ws_card (st_ins I p) = ws_card I + 1 := ws_ins (fun _ => 1) hIp 10 hp
  obtain ⟨T, hT, hsT⟩ := gy_ext ax (P := P) _ (st_ins I p) (Nat.lt_succ_self _) (by
    intro x hx hm
    rw [st_ins_t] at hm
    rcases hm with hm | hm
    · exact hs x hx hm
    · rw [hm]; exact hPp) (mt_ind_ins ax hi hp hn)
  have h2 := gy_card ax hC hG hT
  have h3 : ws_card (st_ins I p) ≤ ws_card T := ws_mono 10 hsT
  omega
/-- an edge is in every basis just when the others don't span it -/
theorem gy_need (ax : mt_ax cl) {P : Nat → Bool} {e : Nat} (he : e < 10) (hP : P e = true) :
    (∀ T, mt_bas cl P T → T e = true) ↔ ¬ cl (st_del P e) e := by
  constructor
  · intro h hc
    obtain ⟨T, hT, _⟩ := gy_ext ax (P := st_del P e) _ (fun _ => false) (Nat.lt_succ_self _) (fun _ _ h => absurd h Bool.false_ne_true) (fun _ _ h => absurd h Bool.false_ne_true)
    have hTP : mt_bas cl P T := by
      refine ⟨fun x hx hm => (st_del_t.mp (hT.1 x hx hm)).1, hT.2.1, ?_⟩
      intro x hx hp
      by_cases hxe : x = e
      · rw [hxe]
        exact ax.1 _ _ hT.2.2 e hc
      · exact hT.2.2 x hx (st_del_t.mpr ⟨hp, hxe⟩)
    exact (st_del_t.mp (hT.1 e he (h T hTP))).2 rfl
  · intro h T hT
    cases ht : T e
    · exfalso
      apply h
      refine mt_mono ax ?_ (hT.2.2 e he hP)
      intro x hx hm
      rw [st_del_t]
      refine ⟨hT.1 x hx hm, ?_⟩
      intro hxe
      rw [hxe, ht] at hm
      exact absurd hm (by decide)
    · rfl
/-- the greedy set without e is smaller just when e is in every basis -/
theorem gy_loss (ax : mt_ax cl) {P G H : Nat → Bool} {C : Nat → Nat} {e : Nat} (hC : ∀ e, e < 10 → C e ≤ 50) (he : e < 10) (hP : P e = true)
    (hG : mt_gr cl P (ws_o C) G) (hH : mt_gr cl (st_del P e) (ws_o C) H) : ws_card H < ws_card G ↔ ¬ cl (st_del P e) e := by
  have hHb := mt_gr_bas ax (ws_o_b hC) (ws_o_inj C) hH
  have hsub : st_sub H P := fun x hx hm => (st_del_t.mp (hHb.1 x hx hm)).1
  by_cases hc : cl (st_del P e) e
  · have hb : mt_bas cl P H := by
      refine ⟨hsub, hHb.2.1, ?_⟩
      intro x hx hp
      by_cases hxe : x = e
      · rw [hxe]
        exact ax.1 _ _ hHb.2.2 e hc
      · exact hHb.2.2 x hx (st_del_t.mpr ⟨hp, hxe⟩)
    have := gy_card ax hC hG hb
    exact ⟨fun h => by omega, fun h => absurd hc h⟩
  · refine ⟨fun _ => hc, fun _ => ?_⟩
    have hHe : H e = false := by
      cases h : H e
      · rfl
      · exact absurd rfl (st_del_t.mp (hHb.1 e he h)).2
    have hn : ¬ cl H e := fun h => hc (mt_mono ax hHb.1 h)
    have h1 : ws_card (st_ins H e) = ws_card H + 1 := ws_ins (fun _ => 1) hHe 10 he
    have hs2 : st_sub (st_ins H e) P := by
      intro x hx hm
      rw [st_ins_t] at hm
      rcases hm with hm | hm
      · exact hsub x hx hm
      · rw [hm]; exact hP
    obtain ⟨T, hT, hsT⟩ := gy_ext ax (P := P) _ (st_ins H e) (Nat.lt_succ_self _) hs2 (mt_ind_ins ax hHb.2.1 he hn)
    have h2 := gy_card ax hC hG hT
    have h3 : ws_card (st_ins H e) ≤ ws_card T := ws_mono 10 hsT
    omega
end
