/-! ===== sets as Bool functions; a closure on the ten edges ===== -/
def st_ins (S : Nat → Bool) (e : Nat) : Nat → Bool := fun x => S x || decide (x = e)
def st_del (S : Nat → Bool) (e : Nat) : Nat → Bool := fun x => S x && !decide (x = e)
def st_lo (S : Nat → Bool) (o : Nat → Nat) (e : Nat) : Nat → Bool := fun x => S x && decide (o x < o e)
theorem st_ins_t {S : Nat → Bool} {e x : Nat} : st_ins S e x = true ↔ S x = true ∨ x = e := by simp [st_ins]
theorem st_del_t {S : Nat → Bool} {e x : Nat} : st_del S e x = true ↔ S x = true ∧ x ≠ e := by simp [st_del]
theorem st_lo_t {S : Nat → Bool} {o : Nat → Nat} {e x : Nat} : st_lo S o e x = true ↔ S x = true ∧ o x < o e := by simp [st_lo]
def st_sub (S T : Nat → Bool) : Prop := ∀ e, e < 10 → S e = true → T e = true
def mt_ax (cl : (Nat → Bool) → Nat → Prop) : Prop :=
  (∀ S T : Nat → Bool, (∀ e, e < 10 → S e = true → cl T e) → ∀ e, cl S e → cl T e) ∧
  (∀ (S : Nat → Bool) (e : Nat), e < 10 → S e = true → cl S e) ∧
  (∀ (S : Nat → Bool) (e g : Nat), e < 10 → g < 10 → cl (st_ins S g) e → ¬ cl S e → cl (st_ins S e) g)
def mt_ind (cl : (Nat → Bool) → Nat → Prop) (S : Nat → Bool) : Prop := ∀ e, e < 10 → S e = true → ¬ cl (st_del S e) e
def mt_bas (cl : (Nat → Bool) → Nat → Prop) (P T : Nat → Bool) : Prop :=
  st_sub T P ∧ mt_ind cl T ∧ (∀ e, e < 10 → P e = true → cl T e)
section
variable {cl : (Nat → Bool) → Nat → Prop}
theorem mt_mono (ax : mt_ax cl) {S T : Nat → Bool} (h : st_sub S T) {e : Nat} (hc : cl S e) : cl T e :=
  ax.1 S T (fun x hx hs => ax.2.1 T x hx (h x hx hs)) e hc
theorem mt_find (ax : mt_ax cl) {K0 T : Nat → Bool} (h0 : st_sub K0 T) {e : Nat} (hc : cl T e) (hn : ¬ cl K0 e) :
    ∃ (K : Nat → Bool) (y : Nat), y < 10 ∧ T y = true ∧ K0 y = false ∧ K y = false ∧ st_sub K T ∧ cl (st_ins K y) e ∧ ¬ cl K e := by
  have key : ∀ k, k ≤ 10 → cl (fun x => K0 x || (T x && decide (x < k))) e →
      ∃ (K : Nat → Bool) (y : Nat), y < 10 ∧ T y = true ∧ K0 y = false ∧ K y = false ∧ st_sub K T ∧ cl (st_ins K y) e ∧ ¬ cl K e := by
    intro k
    induction k with
    | zero =>
      intro _ h
      exact absurd (mt_mono ax (fun x _ hx => by simpa using hx) h) hn
    | succ k ih =>
      intro hk h
      by_cases hq : cl (fun x => K0 x || (T x && decide (x < k))) e
      · exact ih (by omega) hq
      · by_cases hT : T k = true ∧ K0 k = false
        · refine ⟨_, k, by omega, hT.1, hT.2, ?_, ?_, ?_, hq⟩
          · simp [hT.2]
          · intro x hx' hx
            simp at hx
            rcases hx with hx | hx
            · exact h0 x hx' hx
            · exact hx.1
          · refine mt_mono ax ?_ h
            intro x _ hx
            rw [st_ins_t]
            simp at hx ⊢
            rcases hx with hx | hx
            · exact Or.inl (Or.inl hx)
            · by_cases hxk : x = k
              · exact Or.inr hxk
              · exact Or.inl (Or.inr ⟨hx.1, by omega⟩)
        · exfalso
          apply hq
          refine mt_mono ax ?_ h
          intro x _ hx
          simp at hx ⊢
          rcases hx with hx | ⟨hx, hl⟩
          · exact Or.inl hx
          · by_cases hxk : x = k
            · subst hxk
              left
              cases hb : K0 x
              · exact absurd ⟨hx, hb⟩ hT
              · rfl
            · exact Or.inr ⟨hx, by omega⟩
  exact key 10 (Nat.le_refl _) (mt_mono ax (fun x hx h => by simp [h, hx]) hc)
theorem mt_ind_sub (ax : mt_ax cl) {S T : Nat → Bool} (h : st_sub S T) (hT : mt_ind cl T) : mt_ind cl S := by
  intro e he hs hc
  refine hT e he (h e he hs) (mt_mono ax ?_ hc)
  intro x hx hd
  rw [st_del_t] at hd ⊢
  exact ⟨h x hx hd.1, hd.2⟩
theorem mt_ind_ins (ax : mt_ax cl) {S : Nat → Bool} (hS : mt_ind cl S) {e : Nat} (he : e < 10) (hn : ¬ cl S e) : mt_ind cl (st_ins S e) := by
  intro x hx hm hc
  by_cases hxe : x = e
  · subst hxe
    apply hn
    refine mt_mono ax ?_ hc
    intro y _ hy
    rw [st_del_t, st_ins_t] at hy
    rcases hy with ⟨hy | hy, hne⟩
    · exact hy
    · exact absurd hy hne
  · rw [st_ins_t] at hm
    have hSx : S x = true := by
      rcases hm with h | h
      · exact h
      · exact absurd h hxe
    have h1 : cl (st_ins (st_del S x) e) x := by
      refine mt_mono ax ?_ hc
      intro y _ hy
      rw [st_del_t, st_ins_t] at hy
      rw [st_ins_t, st_del_t]
      rcases hy with ⟨hy | hy, hne⟩
      · exact Or.inl ⟨hy, hne⟩
      · exact Or.inr hy
    have h2 := ax.2.2 _ x e hx he h1 (hS x hx hSx)
    apply hn
    refine mt_mono ax ?_ h2
    intro y _ hy
    rw [st_ins_t, st_del_t] at hy
    rcases hy with hy | hy
    · exact hy.1
    · rw [hy]; exact hSx
theorem mt_seq (ax : mt_ax cl) {S : Nat → Bool} {o : Nat → Nat} {N : Nat} (hb : ∀ e, e < 10 → o e < N)
    (hi : ∀ e g, e < 10 → g < 10 → o e = o g → e = g) (h : ∀ e, e < 10 → S e = true → ¬ cl (st_lo S o e) e) : mt_ind cl S := by
  have key : ∀ n, mt_ind cl (fun x => S x && decide (o x < n)) := by
    intro n
    induction n with
    | zero =>
      intro e _ hs
      simp at hs
    | succ n ih =>
      by_cases hx : ∃ e, e < 10 ∧ S e = true ∧ o e = n
      · obtain ⟨e, he, hs, ho⟩ := hx
        refine mt_ind_sub ax ?_ (mt_ind_ins ax ih he ?_)
        · intro x hx hm
          simp at hm
          rw [st_ins_t]
          by_cases hxn : o x = n
          · exact Or.inr (hi x e hx he (by omega))
          · left
            simp
            exact ⟨hm.1, by omega⟩
        · intro hc
          apply h e he hs
          refine mt_mono ax ?_ hc
          intro x _ hm
          simp at hm
          rw [st_lo_t]
          exact ⟨hm.1, by omega⟩
      · refine mt_ind_sub ax ?_ ih
        intro x hx' hm
        simp at hm ⊢
        refine ⟨hm.1, ?_⟩
        by_cases hxn : o x = n
        · exact absurd ⟨x, hx', hm.1, hxn⟩ hx
        · omega
  refine mt_ind_sub ax ?_ (key N)
  intro x hx hs
  simp
  exact ⟨hs, hb x hx⟩
theorem mt_seq' (ax : mt_ax cl) {S : Nat → Bool} {o : Nat → Nat} (h : mt_ind cl S) {e : Nat} (he : e < 10) (hs : S e = true) : ¬ cl (st_lo S o e) e := by
  intro hc
  apply h e he hs
  refine mt_mono ax ?_ hc
  intro x _ hm
  rw [st_lo_t] at hm
  rw [st_del_t]
  refine ⟨hm.1, ?_⟩
  intro hxe
  subst hxe
  omega
/-- the greedy set of P by the order o -/
def mt_gr (cl : (Nat → Bool) → Nat → Prop) (P : Nat → Bool) (o : Nat → Nat) (G : Nat → Bool) : Prop :=
  ∀ e, e < 10 → (G e = true ↔ P e = true ∧ ¬ cl (st_lo P o e) e)
theorem mt_gr_bas (ax : mt_ax cl) {P G : Nat → Bool} {o : Nat → Nat} {N : Nat} (hb : ∀ e, e < 10 → o e < N)
    (hi : ∀ e g, e < 10 → g < 10 → o e = o g → e = g) (hG : mt_gr cl P o G) : mt_bas cl P G := by
  have hsub : st_sub G P := fun e he hg => ((hG e he).mp hg).1
  refine ⟨hsub, mt_seq ax hb hi ?_, ?_⟩
  · intro e he hg hc
    apply ((hG e he).mp hg).2
    refine mt_mono ax ?_ hc
    intro x hx hm
    rw [st_lo_t] at hm ⊢
    exact ⟨hsub x hx hm.1, hm.2⟩
  · have key : ∀ n e, e < 10 → o e < n → P e = true → cl G e := by
      intro n
      induction n with
      | zero => intro e _ h; omega
      | succ n ih =>
        intro e he hn hp
        by_cases hg : G e = true
        · exact ax.2.1 G e he hg
        · have hc : cl (st_lo P o e) e := by
            refine Classical.byContradiction fun hc => ?_
            exact hg ((hG e he).mpr ⟨hp, hc⟩)
          refine ax.1 _ _ ?_ e hc
          intro x hx hm
          rw [st_lo_t] at hm
          exact ih x hx (by omega) hm.1
    intro e he hp
    exact key N e he (hb e he) hp
theorem mt_swap (ax : mt_ax cl) {P G T : Nat → Bool} {o : Nat → Nat}
    (hi : ∀ e g, e < 10 → g < 10 → o e = o g → e = g) (hG : mt_gr cl P o G) (hT : mt_bas cl P T) {e : Nat} (he : e < 10) (hg : G e = true) (ht : T e = false) :
    ∃ y, y < 10 ∧ T y = true ∧ o e < o y ∧ mt_bas cl P (st_ins (st_del T y) e) := by
  have hge := (hG e he).mp hg
  have hn : ¬ cl (st_lo T o e) e := by
    intro hc
    apply hge.2
    refine mt_mono ax ?_ hc
    intro x hx hm
    rw [st_lo_t] at hm ⊢
    exact ⟨hT.1 x hx hm.1, hm.2⟩
  have h0 : st_sub (st_lo T o e) T := fun x _ hm => (st_lo_t.mp hm).1
  obtain ⟨K, y, hy, hTy, hK0, hKy, hKT, hce, hnK⟩ := mt_find ax h0 (hT.2.2 e he hge.1) hn
  have hye : y ≠ e := by
    intro h
    subst h
    rw [hTy] at ht
    exact absurd ht (by decide)
  have ho : o e < o y := by
    have h1 : ¬ o y < o e := by
      intro h
      rw [st_lo_t.mpr ⟨hTy, h⟩] at hK0
      exact absurd hK0 (by decide)
    have h2 : o y ≠ o e := fun h => hye (hi y e hy he h)
    omega
  have hx := ax.2.2 K e y he hy hce hnK
  have hKd : st_sub K (st_del T y) := by
    intro x hx hk
    rw [st_del_t]
    refine ⟨hKT x hx hk, ?_⟩
    intro h
    subst h
    rw [hk] at hKy
    exact absurd hKy (by decide)
  have hnd : ¬ cl (st_del T y) e := by
    intro hc
    apply hT.2.1 y hy hTy
    refine ax.1 _ _ ?_ y hx
    intro x hx hm
    rw [st_ins_t] at hm
    rcases hm with hm | hm
    · exact ax.2.1 _ x hx (hKd x hx hm)
    · rw [hm]; exact hc
  have hds : st_sub (st_del T y) T := fun x _ hm => (st_del_t.mp hm).1
  refine ⟨y, hy, hTy, ho, ?_, mt_ind_ins ax (mt_ind_sub ax hds hT.2.1) he hnd, ?_⟩
  · intro x hx hm
    rw [st_ins_t] at hm
    rcases hm with hm | hm
    · exact hT.1 x hx (hds x hx hm)
    · rw [hm]; exact hge.1
  · intro p hp hPp
    refine ax.1 T _ ?_ p (hT.2.2 p hp hPp)
    intro t htl htt
    by_cases h : t = y
    · rw [h]
      refine mt_mono ax ?_ hx
      intro x hx hm
      rw [st_ins_t] at hm ⊢
      rcases hm with hm | hm
      · exact Or.inl (hKd x hx hm)
      · exact Or.inr hm
    · exact ax.2.1 _ t htl (st_ins_t.mpr (Or.inl (st_del_t.mpr ⟨htt, h⟩)))
theorem mt_same (ax : mt_ax cl) {P G T : Nat → Bool} (hG : mt_bas cl P G) (hT : mt_bas cl P T) (h : st_sub G T) : ∀ e, e < 10 → T e = G e := by
  intro e he
  cases hg : G e
  · cases ht : T e
    · rfl
    · exfalso
      apply hT.2.1 e he ht
      refine mt_mono ax ?_ (hG.2.2 e he (hT.1 e he ht))
      intro x hx hm
      rw [st_del_t]
      refine ⟨h x hx hm, ?_⟩
      intro hxe
      subst hxe
      rw [hg] at hm
      exact absurd hm (by decide)
  · exact h e he hg
end
