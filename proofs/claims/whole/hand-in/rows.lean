section
theorem pk_us {f : Nat → Int32} {k : Nat} {x : Int32} : upd f k x k = x := if_pos rfl
theorem pk_un {f : Nat → Int32} {k j : Nat} {x : Int32} (h : j ≠ k) : upd f k x j = f j := if_neg h
theorem pk_sub {a b : Nat} (h : b ≤ a) : nI a - nI b = nI (a - b) := by
  obtain ⟨c, rfl⟩ : ∃ c, a = c + b := ⟨a - b, by omega⟩
  rw [← nI_add, Int32.add_sub_cancel, Nat.add_sub_cancel]
theorem pk_m1 (n : Nat) : nI (n + 1) + (-1) = nI n := by
  rw [← nI_1, Int32.add_assoc, show (1 : Int32) + (-1) = 0 from rfl, Int32.add_zero]
theorem pk_ix (x : Int32) {n : Nat} (hn : n < 2 ^ 31) : x < 0 ∨ nI n ≤ x ∨ ∃ j : Nat, j < n ∧ x = nI j := by
  by_cases h : x < 0
  · exact Or.inl h
  · obtain ⟨j, hj, rfl⟩ := nI_of h
    by_cases h2 : j < n
    · exact Or.inr (Or.inr ⟨j, h2, rfl⟩)
    · exact Or.inr (Or.inl (nI_le (by omega) hj))
theorem pk_le {x y : Int32} {A B : Prop} (a b : Nat) (f : a ≤ b → A) (g : b < a → B) (hx : x = nI a := by rfl) (hy : y = nI b := by rfl) (ha : a < 2 ^ 31 := by omega) (hb : b < 2 ^ 31 := by omega) : (x ≤ y → A) ∧ (¬ x ≤ y → B) := by
  subst hx hy
  rw [nI_leI ha hb]
  exact ⟨f, fun z => g (by omega)⟩
theorem pk_lt {x y : Int32} {A B : Prop} (a b : Nat) (f : a < b → A) (g : b ≤ a → B) (hx : x = nI a := by rfl) (hy : y = nI b := by rfl) (ha : a < 2 ^ 31 := by omega) (hb : b < 2 ^ 31 := by omega) : (x < y → A) ∧ (¬ x < y → B) := by
  subst hx hy
  rw [nI_ltI ha hb]
  exact ⟨f, fun z => g (by omega)⟩
theorem pk_eq {x y : Int32} {A B : Prop} (a b : Nat) (f : a = b → A) (g : a ≠ b → B) (hx : x = nI a := by rfl) (hy : y = nI b := by rfl) (ha : a < 2 ^ 31 := by omega) (hb : b < 2 ^ 31 := by omega) : (x = y → A) ∧ (¬ x = y → B) := by
  subst hx hy
  rw [nI_eq ha hb]
  exact ⟨f, g⟩
theorem pk_in {x : Int32} (n N : Nat) (h : n < N) (hx : x = nI n := by rfl) (hN : N < 2 ^ 31 := by omega) : vp_in x N := by
  subst hx
  exact vp_in_nI h hN
theorem pk_cl {x : Int32} (n : Nat) (hx : x = nI n := by rfl) (h : n < 2 ^ 31 := by omega) : x.toNatClampNeg = n := by
  subst hx
  exact nI_clamp h
theorem pk_tn {n : Nat} (h : n < 2 ^ 32) : (nI n).toBitVec.toNat = n := Nat.mod_eq_of_lt h
theorem pk_and (x : Int32) {m : Int32} (k : Nat) (hm : m.toBitVec.toNat = 2 ^ k - 1) : x &&& m = nI (x.toBitVec.toNat % 2 ^ k) := by
  apply Int32.toBitVec_inj.mp
  apply BitVec.eq_of_toNat_eq
  rw [Int32.toBitVec_and, BitVec.toNat_and, hm, Nat.and_two_pow_sub_one_eq_mod]
  show _ = (BitVec.ofNat 32 _).toNat
  rw [BitVec.toNat_ofNat]
  exact (Nat.mod_eq_of_lt (Nat.lt_of_le_of_lt (Nat.mod_le _ _) x.toBitVec.isLt)).symm
theorem pk_andN {n : Nat} (h : n < 2 ^ 32) {m : Int32} (k : Nat) (hm : m.toBitVec.toNat = 2 ^ k - 1) : nI n &&& m = nI (n % 2 ^ k) := by
  rw [pk_and _ k hm, pk_tn h]
theorem pk_andE (x : Int32) {m : Int32} (k : Nat) (hm : m.toBitVec.toNat = 2 ^ k - 1) : ∃ j : Nat, j < 2 ^ k ∧ x &&& m = nI j := ⟨_, Nat.mod_lt _ (Nat.two_pow_pos k), pk_and x k hm⟩
theorem pk_andIn (x : Int32) {m : Int32} (k : Nat) (hm : m.toBitVec.toNat = 2 ^ k - 1) (hk : k ≤ 30) : vp_in (x &&& m) (2 ^ k) := by
  obtain ⟨j, hj, e⟩ := pk_andE x k hm
  rw [e]
  exact vp_in_nI hj (Nat.lt_of_le_of_lt (Nat.pow_le_pow_right (by decide) hk) (by decide))
theorem pk_shl (a s : Int32) (k : Nat) (hs : (s.toBitVec.smod 32).toNat = k) : (a <<< s).toBitVec.toNat = a.toBitVec.toNat * 2 ^ k % 2 ^ 32 := by
  show (a.toBitVec <<< (s.toBitVec.smod 32).toNat).toNat = _
  rw [hs, BitVec.toNat_shiftLeft, Nat.shiftLeft_eq]
theorem pk_shlN {n : Nat} (s : Int32) (k : Nat) (hs : (s.toBitVec.smod 32).toNat = k) (h : n * 2 ^ k < 2 ^ 32) : nI n <<< s = nI (n * 2 ^ k) := by
  apply Int32.toBitVec_inj.mp
  apply BitVec.eq_of_toNat_eq
  have hn : n < 2 ^ 32 := Nat.lt_of_le_of_lt (Nat.le_mul_of_pos_right n (Nat.two_pow_pos k)) h
  rw [pk_shl _ _ k hs, pk_tn hn, pk_tn h, Nat.mod_eq_of_lt h]
theorem pk_shr (a s : Int32) (k : Nat) (hs : (s.toBitVec.smod 32).toNat = k) : (a >>> s).toInt = a.toInt >>> k := by
  show (a.toBitVec.sshiftRight (s.toBitVec.smod 32).toNat).toInt = _
  rw [hs, BitVec.toInt_sshiftRight]
  rfl
theorem pk_shrN {n : Nat} (h : n < 2 ^ 31) (s : Int32) (k : Nat) (hs : (s.toBitVec.smod 32).toNat = k) : nI n >>> s = nI (n / 2 ^ k) := by
  apply Int32.toInt_inj.mp
  have h2 : n / 2 ^ k ≤ n := Nat.div_le_self _ _
  rw [pk_shr _ _ k hs, nI_toInt h, nI_toInt (by omega), Int.shiftRight_eq_div_pow]
  rfl
theorem s_l : ∀ n, n < 32 → ((nI n &&& 31).toBitVec.smod 32).toNat = n := by decide +kernel
theorem nx_and (a b : Nat) : nI a &&& nI b = nI (a &&& b) := by
  apply Int32.toBitVec_inj.1
  show BitVec.ofNat 32 a &&& BitVec.ofNat 32 b = BitVec.ofNat 32 (a &&& b)
  apply BitVec.eq_of_getLsbD_eq
  intro i hi
  simp [hi]
theorem nx_xor (a b : Nat) : nI a ^^^ nI b = nI (a ^^^ b) := by
  apply Int32.toBitVec_inj.1
  show BitVec.ofNat 32 a ^^^ BitVec.ofNat 32 b = BitVec.ofNat 32 (a ^^^ b)
  apply BitVec.eq_of_getLsbD_eq
  intro i hi
  simp [hi]
/-! ===== sets of edges as numbers below 1024, bit e for edge e ===== -/
def tb_B (b : Bool) : Int32 := if b = true then 1 else 0
theorem tb_or (a b : Nat) : nI a ||| nI b = nI (a ||| b) := by
  apply Int32.toBitVec_inj.1
  show BitVec.ofNat 32 a ||| BitVec.ofNat 32 b = BitVec.ofNat 32 (a ||| b)
  apply BitVec.eq_of_getLsbD_eq
  intro i hi
  simp [hi]
theorem tb_shl : ∀ e, e < 10 → (1 : Int32) <<< (nI e &&& 31) = nI (2 ^ e) := by decide +kernel
theorem tb_hi {s i : Nat} (hs : s < 1024) (hi : 10 ≤ i) : s.testBit i = false :=
  Nat.testBit_lt_two_pow (Nat.lt_of_lt_of_le hs (Nat.pow_le_pow_right (n := 2) (by decide) hi : 2 ^ 10 ≤ 2 ^ i))
theorem tb_ext {s t : Nat} (hs : s < 1024) (ht : t < 1024) (h : ∀ e, e < 10 → s.testBit e = t.testBit e) : s = t := by
  apply Nat.eq_of_testBit_eq
  intro i
  rcases Nat.lt_or_ge i 10 with hi | hi
  · exact h i hi
  · rw [tb_hi hs hi, tb_hi ht hi]
theorem tb_0 {z : Nat} (hz : z < 1024) : nI z = 0 ↔ ∀ e, e < 10 → z.testBit e = false := by
  rw [show (0 : Int32) = nI 0 from rfl, nI_eq (by omega) (by omega)]
  constructor
  · intro h e _
    rw [h, Nat.zero_testBit]
  · intro h
    exact tb_ext hz (by omega) (fun e he => by rw [h e he, Nat.zero_testBit])
theorem tb_pow {e : Nat} (he : e < 10) : 2 ^ e < 1024 := Nat.pow_lt_pow_right (a := 2) (by decide) he
theorem tb_has {s e : Nat} (hs : s < 1024) (he : e < 10) : (nI s &&& ((1 : Int32) <<< (nI e &&& 31))) = 0 ↔ s.testBit e = false := by
  rw [tb_shl e he, nx_and, tb_0 (Nat.lt_of_le_of_lt Nat.and_le_left hs)]
  constructor
  · intro h
    have := h e he
    rw [Nat.testBit_and, Nat.testBit_two_pow_self, Bool.and_true] at this
    exact this
  · intro h i hi
    rw [Nat.testBit_and, Nat.testBit_two_pow]
    by_cases hie : e = i
    · subst hie; rw [h, Bool.false_and]
    · simp [hie]
theorem tb_shr {s e : Nat} (hs : s < 1024) (he : e < 10) : ((nI s >>> (nI e &&& 31)) &&& 1) = tb_B (s.testBit e) := by
  rw [pk_shrN (by omega) _ e (s_l e (by omega)), pk_andN (by have := Nat.div_le_self s (2 ^ e); omega) 1 (by decide), Nat.testBit_eq_decide_div_mod_eq]
  unfold tb_B
  have h2 : s / 2 ^ e % 2 ^ 1 = 0 ∨ s / 2 ^ e % 2 ^ 1 = 1 := by omega
  rcases h2 with h | h
  · rw [h, if_neg (by rw [decide_eq_true_eq]; omega)]; rfl
  · rw [h, if_pos (decide_eq_true (by omega))]; rfl
theorem tb_B1 (b : Bool) : tb_B b = 1 ↔ b = true := by cases b <;> decide
theorem tb_B0 (b : Bool) : tb_B b = 0 ↔ b = false := by cases b <;> decide
theorem tb_Be (a b : Bool) : tb_B a = tb_B b ↔ a = b := by cases a <;> cases b <;> decide
theorem tb_nb (b : Bool) : narrow .boolean (.int (tb_B b)) = .int (tb_B b) := by cases b <;> rfl
theorem tb_vb (b : Bool) : vp_nar .boolean (tb_B b) = tb_B b := by cases b <;> rfl
def tb_cut (p e : Nat) : Nat := p &&& (2 ^ e ^^^ 4294967295)
theorem tb_m1 : (-1 : Int32) = nI 4294967295 := by decide +kernel
theorem tb_bm1 {i : Nat} (hi : i < 32) : (4294967295 : Nat).testBit i = true := by
  rw [show (4294967295 : Nat) = 2 ^ 32 - 1 from rfl, Nat.testBit_two_pow_sub_one]
  exact decide_eq_true hi
theorem tb_cutI {p e : Nat} (he : e < 10) : nI p &&& (((1 : Int32) <<< (nI e &&& 31)) ^^^ (-1)) = nI (tb_cut p e) := by
  rw [tb_shl e he, tb_m1, nx_xor, nx_and, tb_cut]
theorem tb_cut_lt {p e : Nat} (hp : p < 1024) : tb_cut p e < 1024 := Nat.lt_of_le_of_lt Nat.and_le_left hp
theorem tb_cut_b {p e i : Nat} (hi : i < 10) : (tb_cut p e).testBit i = (p.testBit i && !decide (i = e)) := by
  rw [tb_cut, Nat.testBit_and, Nat.testBit_xor, Nat.testBit_two_pow, tb_bm1 (by omega)]
  by_cases h : e = i
  · simp [h]
  · simp [h]
    exact fun _ z => h z.symm
theorem tb_sub {s p : Nat} (hs : s < 1024) : (nI s &&& (nI p ^^^ (-1))) = 0 ↔ ∀ e, e < 10 → s.testBit e = true → p.testBit e = true := by
  rw [tb_m1, nx_xor, nx_and, tb_0 (Nat.lt_of_le_of_lt Nat.and_le_left hs)]
  constructor
  · intro h e he hse
    have := h e he
    rw [Nat.testBit_and, Nat.testBit_xor, tb_bm1 (by omega), hse] at this
    simpa using this
  · intro h e he
    rw [Nat.testBit_and, Nat.testBit_xor, tb_bm1 (by omega)]
    cases hse : s.testBit e
    · rfl
    · rw [h e he hse]; rfl
theorem tb_or_lt {a b : Nat} (ha : a < 1024) (hb : b < 1024) : a ||| b < 1024 := Nat.or_lt_two_pow (n := 10) ha hb
theorem tb_or_b {s e i : Nat} : (s ||| 2 ^ e).testBit i = (s.testBit i || decide (e = i)) := by
  rw [Nat.testBit_or, Nat.testBit_two_pow]
/-- the number of a set -/
def tb_mk (S : Nat → Bool) : Nat → Nat
  | 0 => 0
  | k + 1 => if S k = true then tb_mk S k ||| 2 ^ k else tb_mk S k
theorem tb_mk_b (S : Nat → Bool) : ∀ k i, (tb_mk S k).testBit i = (S i && decide (i < k)) := by
  intro k
  induction k with
  | zero => intro i; rw [tb_mk, Nat.zero_testBit, decide_eq_false (by omega), Bool.and_false]
  | succ k ih =>
    intro i
    rw [tb_mk]
    by_cases h : S k = true
    · rw [if_pos h, tb_or_b, ih]
      by_cases hik : k = i
      · subst hik; simp [h]
      · have : (i < k) ↔ (i < k + 1) := by omega
        simp [hik, this]
    · rw [if_neg h, ih]
      by_cases hik : k = i
      · subst hik; simp [h]
      · have : (i < k) ↔ (i < k + 1) := by omega
        simp [this]
theorem tb_mk_lt (S : Nat → Bool) : ∀ k, k ≤ 10 → tb_mk S k < 1024 := by
  intro k
  induction k with
  | zero => intro _; show 0 < 1024; decide
  | succ k ih =>
    intro hk
    rw [tb_mk]
    by_cases h : S k = true
    · rw [if_pos h]; exact tb_or_lt (ih (by omega)) (tb_pow (by omega))
    · rw [if_neg h]; exact ih (by omega)
end
section
/-! ===== sets as Bool functions; a closure on the ten edges ===== -/
def st_ins (S : Nat → Bool) (e : Nat) : Nat → Bool := fun x => S x || decide (x = e)
def st_del (S : Nat → Bool) (e : Nat) : Nat → Bool := fun x => S x && !decide (x = e)
def st_lo (S : Nat → Bool) (o : Nat → Nat) (e : Nat) : Nat → Bool := fun x => S x && decide (o x < o e)
theorem st_ins_t {S : Nat → Bool} {e x : Nat} : st_ins S e x = true ↔ S x = true ∨ x = e := by simp [st_ins]
theorem st_del_t {S : Nat → Bool} {e x : Nat} : st_del S e x = true ↔ S x = true ∧ x ≠ e := by simp [st_del]
theorem st_lo_t {S : Nat → Bool} {o : Nat → Nat} {e x : Nat} : st_lo S o e x = true ↔ S x = true ∧ o x < o e := by simp [st_lo]
def st_sub (S T : Nat → Bool) : Prop := ∀ e, e < 10 → S e = true → T e = true
def mt_ax (cl : (Nat → Bool) → Nat → Prop) : Prop :=
  (∀ S T : Nat → Bool, (∀ e, e < 10 → S e = true → cl T e) → ∀ e, cl S e → cl T e) ∧
  (∀ (S : Nat → Bool) (e : Nat), e < 10 → S e = true → cl S e) ∧
  (∀ (S : Nat → Bool) (e g : Nat), e < 10 → g < 10 → cl (st_ins S g) e → ¬ cl S e → cl (st_ins S e) g)
def mt_ind (cl : (Nat → Bool) → Nat → Prop) (S : Nat → Bool) : Prop := ∀ e, e < 10 → S e = true → ¬ cl (st_del S e) e
def mt_bas (cl : (Nat → Bool) → Nat → Prop) (P T : Nat → Bool) : Prop :=
  st_sub T P ∧ mt_ind cl T ∧ (∀ e, e < 10 → P e = true → cl T e)
section
variable {cl : (Nat → Bool) → Nat → Prop}
theorem mt_mono (ax : mt_ax cl) {S T : Nat → Bool} (h : st_sub S T) {e : Nat} (hc : cl S e) : cl T e :=
  ax.1 S T (fun x hx hs => ax.2.1 T x hx (h x hx hs)) e hc
theorem mt_find (ax : mt_ax cl) {K0 T : Nat → Bool} (h0 : st_sub K0 T) {e : Nat} (hc : cl T e) (hn : ¬ cl K0 e) :
    ∃ (K : Nat → Bool) (y : Nat), y < 10 ∧ T y = true ∧ K0 y = false ∧ K y = false ∧ st_sub K T ∧ cl (st_ins K y) e ∧ ¬ cl K e := by
  have key : ∀ k, k ≤ 10 → cl (fun x => K0 x || (T x && decide (x < k))) e →
      ∃ (K : Nat → Bool) (y : Nat), y < 10 ∧ T y = true ∧ K0 y = false ∧ K y = false ∧ st_sub K T ∧ cl (st_ins K y) e ∧ ¬ cl K e := by
    intro k
    induction k with
    | zero =>
      intro _ h
      exact absurd (mt_mono ax (fun x _ hx => by simpa using hx) h) hn
    | succ k ih =>
      intro hk h
      by_cases hq : cl (fun x => K0 x || (T x && decide (x < k))) e
      · exact ih (by omega) hq
      · by_cases hT : T k = true ∧ K0 k = false
        · refine ⟨_, k, by omega, hT.1, hT.2, ?_, ?_, ?_, hq⟩
          · simp [hT.2]
          · intro x hx' hx
            simp at hx
            rcases hx with hx | hx
            · exact h0 x hx' hx
            · exact hx.1
          · refine mt_mono ax ?_ h
            intro x _ hx
            rw [st_ins_t]
            simp at hx ⊢
            rcases hx with hx | hx
            · exact Or.inl (Or.inl hx)
            · by_cases hxk : x = k
              · exact Or.inr hxk
              · exact Or.inl (Or.inr ⟨hx.1, by omega⟩)
        · exfalso
          apply hq
          refine mt_mono ax ?_ h
          intro x _ hx
          simp at hx ⊢
          rcases hx with hx | ⟨hx, hl⟩
          · exact Or.inl hx
          · by_cases hxk : x = k
            · subst hxk
              left
              cases hb : K0 x
              · exact absurd ⟨hx, hb⟩ hT
              · rfl
            · exact Or.inr ⟨hx, by omega⟩
  exact key 10 (Nat.le_refl _) (mt_mono ax (fun x hx h => by simp [h, hx]) hc)
theorem mt_ind_sub (ax : mt_ax cl) {S T : Nat → Bool} (h : st_sub S T) (hT : mt_ind cl T) : mt_ind cl S := by
  intro e he hs hc
  refine hT e he (h e he hs) (mt_mono ax ?_ hc)
  intro x hx hd
  rw [st_del_t] at hd ⊢
  exact ⟨h x hx hd.1, hd.2⟩
theorem mt_ind_ins (ax : mt_ax cl) {S : Nat → Bool} (hS : mt_ind cl S) {e : Nat} (he : e < 10) (hn : ¬ cl S e) : mt_ind cl (st_ins S e) := by
  intro x hx hm hc
  by_cases hxe : x = e
  · subst hxe
    apply hn
    refine mt_mono ax ?_ hc
    intro y _ hy
    rw [st_del_t, st_ins_t] at hy
    rcases hy with ⟨hy | hy, hne⟩
    · exact hy
    · exact absurd hy hne
  · rw [st_ins_t] at hm
    have hSx : S x = true := by
      rcases hm with h | h
      · exact h
      · exact absurd h hxe
    have h1 : cl (st_ins (st_del S x) e) x := by
      refine mt_mono ax ?_ hc
      intro y _ hy
      rw [st_del_t, st_ins_t] at hy
      rw [st_ins_t, st_del_t]
      rcases hy with ⟨hy | hy, hne⟩
      · exact Or.inl ⟨hy, hne⟩
      · exact Or.inr hy
    have h2 := ax.2.2 _ x e hx he h1 (hS x hx hSx)
    apply hn
    refine mt_mono ax ?_ h2
    intro y _ hy
    rw [st_ins_t, st_del_t] at hy
    rcases hy with hy | hy
    · exact hy.1
    · rw [hy]; exact hSx
theorem mt_seq (ax : mt_ax cl) {S : Nat → Bool} {o : Nat → Nat} {N : Nat} (hb : ∀ e, e < 10 → o e < N)
    (hi : ∀ e g, e < 10 → g < 10 → o e = o g → e = g) (h : ∀ e, e < 10 → S e = true → ¬ cl (st_lo S o e) e) : mt_ind cl S := by
  have key : ∀ n, mt_ind cl (fun x => S x && decide (o x < n)) := by
    intro n
    induction n with
    | zero =>
      intro e _ hs
      simp at hs
    | succ n ih =>
      by_cases hx : ∃ e, e < 10 ∧ S e = true ∧ o e = n
      · obtain ⟨e, he, hs, ho⟩ := hx
        refine mt_ind_sub ax ?_ (mt_ind_ins ax ih he ?_)
        · intro x hx hm
          simp at hm
          rw [st_ins_t]
          by_cases hxn : o x = n
          · exact Or.inr (hi x e hx he (by omega))
          · left
            simp
            exact ⟨hm.1, by omega⟩
        · intro hc
          apply h e he hs
          refine mt_mono ax ?_ hc
          intro x _ hm
          simp at hm
          rw [st_lo_t]
          exact ⟨hm.1, by omega⟩
      · refine mt_ind_sub ax ?_ ih
        intro x hx' hm
        simp at hm ⊢
        refine ⟨hm.1, ?_⟩
        by_cases hxn : o x = n
        · exact absurd ⟨x, hx', hm.1, hxn⟩ hx
        · omega
  refine mt_ind_sub ax ?_ (key N)
  intro x hx hs
  simp
  exact ⟨hs, hb x hx⟩
theorem mt_seq' (ax : mt_ax cl) {S : Nat → Bool} {o : Nat → Nat} (h : mt_ind cl S) {e : Nat} (he : e < 10) (hs : S e = true) : ¬ cl (st_lo S o e) e := by
  intro hc
  apply h e he hs
  refine mt_mono ax ?_ hc
  intro x _ hm
  rw [st_lo_t] at hm
  rw [st_del_t]
  refine ⟨hm.1, ?_⟩
  intro hxe
  subst hxe
  omega
/-- the greedy set of P by the order o -/
def mt_gr (cl : (Nat → Bool) → Nat → Prop) (P : Nat → Bool) (o : Nat → Nat) (G : Nat → Bool) : Prop :=
  ∀ e, e < 10 → (G e = true ↔ P e = true ∧ ¬ cl (st_lo P o e) e)
theorem mt_gr_bas (ax : mt_ax cl) {P G : Nat → Bool} {o : Nat → Nat} {N : Nat} (hb : ∀ e, e < 10 → o e < N)
    (hi : ∀ e g, e < 10 → g < 10 → o e = o g → e = g) (hG : mt_gr cl P o G) : mt_bas cl P G := by
  have hsub : st_sub G P := fun e he hg => ((hG e he).mp hg).1
  refine ⟨hsub, mt_seq ax hb hi ?_, ?_⟩
  · intro e he hg hc
    apply ((hG e he).mp hg).2
    refine mt_mono ax ?_ hc
    intro x hx hm
    rw [st_lo_t] at hm ⊢
    exact ⟨hsub x hx hm.1, hm.2⟩
  · have key : ∀ n e, e < 10 → o e < n → P e = true → cl G e := by
      intro n
      induction n with
      | zero => intro e _ h; omega
      | succ n ih =>
        intro e he hn hp
        by_cases hg : G e = true
        · exact ax.2.1 G e he hg
        · have hc : cl (st_lo P o e) e := by
            refine Classical.byContradiction fun hc => ?_
            exact hg ((hG e he).mpr ⟨hp, hc⟩)
          refine ax.1 _ _ ?_ e hc
          intro x hx hm
          rw [st_lo_t] at hm
          exact ih x hx (by omega) hm.1
    intro e he hp
    exact key N e he (hb e he) hp
theorem mt_swap (ax : mt_ax cl) {P G T : Nat → Bool} {o : Nat → Nat}
    (hi : ∀ e g, e < 10 → g < 10 → o e = o g → e = g) (hG : mt_gr cl P o G) (hT : mt_bas cl P T) {e : Nat} (he : e < 10) (hg : G e = true) (ht : T e = false) :
    ∃ y, y < 10 ∧ T y = true ∧ o e < o y ∧ mt_bas cl P (st_ins (st_del T y) e) := by
  have hge := (hG e he).mp hg
  have hn : ¬ cl (st_lo T o e) e := by
    intro hc
    apply hge.2
    refine mt_mono ax ?_ hc
    intro x hx hm
    rw [st_lo_t] at hm ⊢
    exact ⟨hT.1 x hx hm.1, hm.2⟩
  have h0 : st_sub (st_lo T o e) T := fun x _ hm => (st_lo_t.mp hm).1
  obtain ⟨K, y, hy, hTy, hK0, hKy, hKT, hce, hnK⟩ := mt_find ax h0 (hT.2.2 e he hge.1) hn
  have hye : y ≠ e := by
    intro h
    subst h
    rw [hTy] at ht
    exact absurd ht (by decide)
  have ho : o e < o y := by
    have h1 : ¬ o y < o e := by
      intro h
      rw [st_lo_t.mpr ⟨hTy, h⟩] at hK0
      exact absurd hK0 (by decide)
    have h2 : o y ≠ o e := fun h => hye (hi y e hy he h)
    omega
  have hx := ax.2.2 K e y he hy hce hnK
  have hKd : st_sub K (st_del T y) := by
    intro x hx hk
    rw [st_del_t]
    refine ⟨hKT x hx hk, ?_⟩
    intro h
    subst h
    rw [hk] at hKy
    exact absurd hKy (by decide)
  have hnd : ¬ cl (st_del T y) e := by
    intro hc
    apply hT.2.1 y hy hTy
    refine ax.1 _ _ ?_ y hx
    intro x hx hm
    rw [st_ins_t] at hm
    rcases hm with hm | hm
    · exact ax.2.1 _ x hx (hKd x hx hm)
    · rw [hm]; exact hc
  have hds : st_sub (st_del T y) T := fun x _ hm => (st_del_t.mp hm).1
  refine ⟨y, hy, hTy, ho, ?_, mt_ind_ins ax (mt_ind_sub ax hds hT.2.1) he hnd, ?_⟩
  · intro x hx hm
    rw [st_ins_t] at hm
    rcases hm with hm | hm
    · exact hT.1 x hx (hds x hx hm)
    · rw [hm]; exact hge.1
  · intro p hp hPp
    refine ax.1 T _ ?_ p (hT.2.2 p hp hPp)
    intro t htl htt
    by_cases h : t = y
    · rw [h]
      refine mt_mono ax ?_ hx
      intro x hx hm
      rw [st_ins_t] at hm ⊢
      rcases hm with hm | hm
      · exact Or.inl (hKd x hx hm)
      · exact Or.inr hm
    · exact ax.2.1 _ t htl (st_ins_t.mpr (Or.inl (st_del_t.mpr ⟨htt, h⟩)))
theorem mt_same (ax : mt_ax cl) {P G T : Nat → Bool} (hG : mt_bas cl P G) (hT : mt_bas cl P T) (h : st_sub G T) : ∀ e, e < 10 → T e = G e := by
  intro e he
  cases hg : G e
  · cases ht : T e
    · rfl
    · exfalso
      apply hT.2.1 e he ht
      refine mt_mono ax ?_ (hG.2.2 e he (hT.1 e he ht))
      intro x hx hm
      rw [st_del_t]
      refine ⟨h x hx hm, ?_⟩
      intro hxe
      subst hxe
      rw [hg] at hm
      exact absurd hm (by decide)
  · exact h e he hg
end
end
section
/-! ===== sums over a set, the order of sets, the greedy set is the first of all bases ===== -/
def ws_sm (w : Nat → Nat) (S : Nat → Bool) : Nat → Nat
  | 0 => 0
  | k + 1 => ws_sm w S k + (if S k = true then w k else 0)
theorem ws_congr {w : Nat → Nat} {S T : Nat → Bool} : ∀ k, (∀ e, e < k → S e = T e) → ws_sm w S k = ws_sm w T k := by
  intro k
  induction k with
  | zero => intro _; rfl
  | succ k ih =>
    intro h
    rw [ws_sm, ws_sm, ih (fun e he => h e (by omega)), h k (by omega)]
theorem ws_congw {w x : Nat → Nat} {S : Nat → Bool} : ∀ k, (∀ e, e < k → w e = x e) → ws_sm w S k = ws_sm x S k := by
  intro k
  induction k with
  | zero => intro _; rfl
  | succ k ih =>
    intro h
    rw [ws_sm, ws_sm, ih (fun e he => h e (by omega)), h k (by omega)]
theorem ws_ins (w : Nat → Nat) {S : Nat → Bool} {e : Nat} (hs : S e = false) : ∀ k, e < k → ws_sm w (st_ins S e) k = ws_sm w S k + w e := by
  intro k
  induction k with
  | zero => intro h; omega
  | succ k ih =>
    intro h
    rw [ws_sm, ws_sm]
    by_cases hek : e = k
    · subst hek
      rw [ws_congr (S := st_ins S e) (T := S) e (fun x hx => by simp [st_ins]; omega), if_pos (st_ins_t.mpr (Or.inr rfl)), hs]
      simp
    · rw [ih (by omega)]
      have : st_ins S e k = S k := by
        simp [st_ins]
        intro z
        exact absurd z.symm hek
      rw [this]
      omega
theorem ws_del (w : Nat → Nat) {S : Nat → Bool} {e k : Nat} (hs : S e = true) (hk : e < k) : ws_sm w (st_del S e) k + w e = ws_sm w S k := by
  have h := ws_ins w (S := st_del S e) (e := e) (by simp [st_del]) k hk
  rw [← h]
  apply ws_congr
  intro x _
  by_cases hx : x = e
  · subst hx; rw [st_ins_t.mpr (Or.inr rfl), hs]
  · simp [st_ins, st_del, hx]
theorem ws_swap (w : Nat → Nat) {T : Nat → Bool} {e y k : Nat} (ht : T e = false) (hy : T y = true) (he : e < k) (hk : y < k) :
    ws_sm w (st_ins (st_del T y) e) k + w y = ws_sm w T k + w e := by
  have h1 := ws_ins w (S := st_del T y) (e := e) (by simp [st_del, ht]) k he
  have h2 := ws_del w hy hk
  omega
theorem ws_mono {w : Nat → Nat} {S T : Nat → Bool} : ∀ k, (∀ e, e < k → S e = true → T e = true) → ws_sm w S k ≤ ws_sm w T k := by
  intro k
  induction k with
  | zero => intro _; exact Nat.le_refl _
  | succ k ih =>
    intro h
    have h1 := ih (fun e he => h e (by omega))
    rw [ws_sm, ws_sm]
    cases hs : S k
    · simp; omega
    · rw [h k (by omega) hs]; simp; exact h1
theorem ws_le {w : Nat → Nat} {S : Nat → Bool} {m : Nat} : ∀ k, (∀ e, e < k → w e ≤ m) → ws_sm w S k ≤ k * m := by
  intro k
  induction k with
  | zero => intro _; exact Nat.zero_le _
  | succ k ih =>
    intro h
    have h1 := ih (fun e he => h e (by omega))
    have h2 := h k (by omega)
    rw [ws_sm, Nat.succ_mul]
    cases S k
    · simp; omega
    · simp; omega
def ws_card (S : Nat → Bool) : Nat := ws_sm (fun _ => 1) S 10
/-- of two sets of the same weight: the one that has the first edge in which they differ -/
def ws_lx (a b : Nat → Bool) : Nat → Nat → Bool
  | 0, _ => false
  | d + 1, j => if a j = b j then ws_lx a b d (j + 1) else a j
def ws_nb (S : Nat → Bool) : Nat → Nat → Nat
  | 0, _ => 0
  | d + 1, j => (if S j = true then 0 else 2 ^ d) + ws_nb S d (j + 1)
theorem ws_nb_lt (S : Nat → Bool) : ∀ d j, ws_nb S d j < 2 ^ d := by
  intro d
  induction d with
  | zero => intro j; exact Nat.one_pos
  | succ d ih =>
    intro j
    have := ih (j + 1)
    rw [ws_nb, Nat.pow_succ]
    by_cases h : S j = true
    · rw [if_pos h]; omega
    · rw [if_neg h]; omega
theorem ws_lx_nb (a b : Nat → Bool) : ∀ d j, ws_lx a b d j = true ↔ ws_nb a d j < ws_nb b d j := by
  intro d
  induction d with
  | zero => intro j; simp [ws_lx, ws_nb]
  | succ d ih =>
    intro j
    have ha := ws_nb_lt a d (j + 1)
    have hb := ws_nb_lt b d (j + 1)
    have h := ih (j + 1)
    rw [ws_lx, ws_nb, ws_nb]
    cases hA : a j <;> cases hB : b j
    · simp [h]
    · simp; omega
    · simp; omega
    · simp [h]
theorem ws_lx_first {a b : Nat → Bool} {e : Nat} (ha : a e = true) (hb : b e = false) : ∀ d j, (∀ i, j ≤ i → i < e → a i = b i) → j ≤ e → e < j + d → ws_lx a b d j = true := by
  intro d
  induction d with
  | zero => intro j _ h1 h2; omega
  | succ d ih =>
    intro j h h1 h2
    rw [ws_lx]
    by_cases hj : j = e
    · subst hj; rw [ha, hb]; rfl
    · rw [if_pos (h j (Nat.le_refl _) (by omega))]
      exact ih (j + 1) (fun i hi hie => h i (by omega) hie) (by omega) (by omega)
theorem ws_nb_congr {a b : Nat → Bool} : ∀ d j, (∀ i, j ≤ i → i < j + d → a i = b i) → ws_nb a d j = ws_nb b d j := by
  intro d
  induction d with
  | zero => intro j _; rfl
  | succ d ih =>
    intro j h
    rw [ws_nb, ws_nb, h j (Nat.le_refl _) (by omega), ih (j + 1) (fun i h1 h2 => h i (by omega) (by omega))]
def ws_key (C : Nat → Nat) (S : Nat → Bool) : Nat := 1024 * ws_sm C S 10 + ws_nb S 10 0
def ws_bf (C : Nat → Nat) (a b : Nat → Bool) : Bool :=
  if ws_sm C a 10 = ws_sm C b 10 then ws_lx a b 10 0 else decide (ws_sm C a 10 < ws_sm C b 10)
theorem ws_bf_key (C : Nat → Nat) (a b : Nat → Bool) : ws_bf C a b = true ↔ ws_key C a < ws_key C b := by
  have ha : ws_nb a 10 0 < 1024 := ws_nb_lt a 10 0
  have hb : ws_nb b 10 0 < 1024 := ws_nb_lt b 10 0
  unfold ws_bf ws_key
  by_cases h : ws_sm C a 10 = ws_sm C b 10
  · rw [if_pos h, ws_lx_nb]; omega
  · rw [if_neg h, decide_eq_true_eq]; omega
theorem ws_key_congr (C : Nat → Nat) {a b : Nat → Bool} (h : ∀ e, e < 10 → a e = b e) : ws_key C a = ws_key C b := by
  rw [ws_key, ws_key, ws_congr 10 h, ws_nb_congr 10 0 (fun i _ hi => h i (by omega))]
def ws_o (C : Nat → Nat) (e : Nat) : Nat := C e * 16 + e
theorem ws_o_inj (C : Nat → Nat) : ∀ e g, e < 10 → g < 10 → ws_o C e = ws_o C g → e = g := by
  intro e g he hg h
  unfold ws_o at h
  omega
theorem ws_o_b {C : Nat → Nat} (hC : ∀ e, e < 10 → C e ≤ 50) : ∀ e, e < 10 → ws_o C e < 1000 := by
  intro e he
  have := hC e he
  unfold ws_o
  omega
theorem ws_step {C : Nat → Nat} {T : Nat → Bool} {e y : Nat} (he : e < 10) (hy : y < 10) (ht : T e = false) (hTy : T y = true) (ho : ws_o C e < ws_o C y) :
    ws_key C (st_ins (st_del T y) e) < ws_key C T := by
  rw [← ws_bf_key]
  have hs := ws_swap C ht hTy he hy
  unfold ws_o at ho
  have h1 : C e ≤ C y := by omega
  unfold ws_bf
  by_cases h : ws_sm C (st_ins (st_del T y) e) 10 = ws_sm C T 10
  · rw [if_pos h]
    have h2 : C e = C y := by omega
    have h3 : e < y := by omega
    refine ws_lx_first (e := e) (st_ins_t.mpr (Or.inr rfl)) ht 10 0 ?_ (Nat.zero_le _) (by omega)
    intro i _ hi
    have i1 : i ≠ e := by omega
    have i2 : i ≠ y := by omega
    simp [st_ins, st_del, i1, i2]
  · rw [if_neg h, decide_eq_true_eq]
    omega
section
variable {cl : (Nat → Bool) → Nat → Prop}
/-- every basis has as many edges as the greedy one, and comes behind it if it is another -/
theorem gy_main (ax : mt_ax cl) {P G : Nat → Bool} {C : Nat → Nat} (hC : ∀ e, e < 10 → C e ≤ 50) (hG : mt_gr cl P (ws_o C) G) :
    ∀ n T, ws_key C T < n → mt_bas cl P T → ws_card T = ws_card G ∧ ((∀ e, e < 10 → T e = G e) ∨ ws_key C G < ws_key C T) := by
  have hGb := mt_gr_bas ax (ws_o_b hC) (ws_o_inj C) hG
  intro n
  induction n with
  | zero => intro T h; omega
  | succ n ih =>
    intro T hn hT
    by_cases hd : ∃ e, e < 10 ∧ G e = true ∧ T e = false
    · obtain ⟨e, he, hg, ht⟩ := hd
      obtain ⟨y, hy, hTy, ho, hb⟩ := mt_swap ax (ws_o_inj C) hG hT he hg ht
      have hk := ws_step he hy ht hTy ho
      have hc : ws_card (st_ins (st_del T y) e) = ws_card T := by
        have := ws_swap (fun _ => 1) ht hTy he hy
        unfold ws_card
        omega
      obtain ⟨h1, h2⟩ := ih _ (by omega) hb
      refine ⟨by omega, Or.inr ?_⟩
      rcases h2 with h2 | h2
      · rw [← ws_key_congr C h2]; exact hk
      · omega
    · have hs : ∀ e, e < 10 → T e = G e := by
        refine mt_same ax hGb hT ?_
        intro e he hg
        cases ht : T e
        · exact absurd ⟨e, he, hg, ht⟩ hd
        · rfl
      exact ⟨ws_congr 10 hs, Or.inl hs⟩
theorem gy_card (ax : mt_ax cl) {P G T : Nat → Bool} {C : Nat → Nat} (hC : ∀ e, e < 10 → C e ≤ 50) (hG : mt_gr cl P (ws_o C) G) (hT : mt_bas cl P T) : ws_card T = ws_card G :=
  (gy_main ax hC hG _ T (Nat.lt_succ_self _) hT).1
theorem gy_first (ax : mt_ax cl) {P G T : Nat → Bool} {C : Nat → Nat} (hC : ∀ e, e < 10 → C e ≤ 50) (hG : mt_gr cl P (ws_o C) G) (hT : mt_bas cl P T) : (∀ e, e < 10 → T e = G e) ∨ ws_key C G < ws_key C T :=
  (gy_main ax hC hG _ T (Nat.lt_succ_self _) hT).2
theorem gy_ext (ax : mt_ax cl) {P : Nat → Bool} : ∀ n I, 10 - ws_card I < n → st_sub I P → mt_ind cl I → ∃ T, mt_bas cl P T ∧ st_sub I T := by
  intro n
  induction n with
  | zero => intro I h; omega
  | succ n ih =>
    intro I hn hs hi
    by_cases hx : ∃ p, p < 10 ∧ P p = true ∧ ¬ cl I p
    · obtain ⟨p, hp, hPp, hc⟩ := hx
      have hIp : I p = false := by
        cases h : I p
        · rfl
        · exact absurd (ax.2.1 I p hp h) hc
      have h1 : ws_card (st_ins I p) = ws_card I + 1 := ws_ins (fun _ => 1) hIp 10 hp
      have h2 : ws_card (st_ins I p) ≤ 10 * 1 := ws_le 10 (fun _ _ => Nat.le_refl _)
      obtain ⟨T, hT, hsT⟩ := ih (st_ins I p) (by omega) (by
        intro x hx hm
        rw [st_ins_t] at hm
        rcases hm with hm | hm
        · exact hs x hx hm
        · rw [hm]; exact hPp) (mt_ind_ins ax hi hp hc)
      exact ⟨T, hT, fun x hx hm => hsT x hx (st_ins_t.mpr (Or.inl hm))⟩
    · refine ⟨I, ⟨hs, hi, ?_⟩, fun _ _ h => h⟩
      intro e he hP
      refine Classical.byContradiction fun hc => ?_
      exact hx ⟨e, he, hP, hc⟩
/-- an independent set of the greedy one's size is a basis -/
theorem gy_size (ax : mt_ax cl) {P G I : Nat → Bool} {C : Nat → Nat} (hC : ∀ e, e < 10 → C e ≤ 50) (hG : mt_gr cl P (ws_o C) G)
    (hs : st_sub I P) (hi : mt_ind cl I) (hc : ws_card I = ws_card G) : mt_bas cl P I := by
  refine ⟨hs, hi, ?_⟩
  intro p hp hPp
  refine Classical.byContradiction fun hn => ?_
  have hIp : I p = false := by
    cases h : I p
    · rfl
    · exact absurd (ax.2.1 I p hp h) hn
  have h1 : ws_card (st_ins I p) = ws_card I + 1 := ws_ins (fun _ => 1) hIp 10 hp
  obtain ⟨T, hT, hsT⟩ := gy_ext ax (P := P) _ (st_ins I p) (Nat.lt_succ_self _) (by
    intro x hx hm
    rw [st_ins_t] at hm
    rcases hm with hm | hm
    · exact hs x hx hm
    · rw [hm]; exact hPp) (mt_ind_ins ax hi hp hn)
  have h2 := gy_card ax hC hG hT
  have h3 : ws_card (st_ins I p) ≤ ws_card T := ws_mono 10 hsT
  omega
/-- an edge is in every basis just when the others don't span it -/
theorem gy_need (ax : mt_ax cl) {P : Nat → Bool} {e : Nat} (he : e < 10) (hP : P e = true) :
    (∀ T, mt_bas cl P T → T e = true) ↔ ¬ cl (st_del P e) e := by
  constructor
  · intro h hc
    obtain ⟨T, hT, _⟩ := gy_ext ax (P := st_del P e) _ (fun _ => false) (Nat.lt_succ_self _) (fun _ _ h => absurd h Bool.false_ne_true) (fun _ _ h => absurd h Bool.false_ne_true)
    have hTP : mt_bas cl P T := by
      refine ⟨fun x hx hm => (st_del_t.mp (hT.1 x hx hm)).1, hT.2.1, ?_⟩
      intro x hx hp
      by_cases hxe : x = e
      · rw [hxe]
        exact ax.1 _ _ hT.2.2 e hc
      · exact hT.2.2 x hx (st_del_t.mpr ⟨hp, hxe⟩)
    exact (st_del_t.mp (hT.1 e he (h T hTP))).2 rfl
  · intro h T hT
    cases ht : T e
    · exfalso
      apply h
      refine mt_mono ax ?_ (hT.2.2 e he hP)
      intro x hx hm
      rw [st_del_t]
      refine ⟨hT.1 x hx hm, ?_⟩
      intro hxe
      rw [hxe, ht] at hm
      exact absurd hm (by decide)
    · rfl
/-- the greedy set without e is smaller just when e is in every basis -/
theorem gy_loss (ax : mt_ax cl) {P G H : Nat → Bool} {C : Nat → Nat} {e : Nat} (hC : ∀ e, e < 10 → C e ≤ 50) (he : e < 10) (hP : P e = true)
    (hG : mt_gr cl P (ws_o C) G) (hH : mt_gr cl (st_del P e) (ws_o C) H) : ws_card H < ws_card G ↔ ¬ cl (st_del P e) e := by
  have hHb := mt_gr_bas ax (ws_o_b hC) (ws_o_inj C) hH
  have hsub : st_sub H P := fun x hx hm => (st_del_t.mp (hHb.1 x hx hm)).1
  by_cases hc : cl (st_del P e) e
  · have hb : mt_bas cl P H := by
      refine ⟨hsub, hHb.2.1, ?_⟩
      intro x hx hp
      by_cases hxe : x = e
      · rw [hxe]
        exact ax.1 _ _ hHb.2.2 e hc
      · exact hHb.2.2 x hx (st_del_t.mpr ⟨hp, hxe⟩)
    have := gy_card ax hC hG hb
    exact ⟨fun h => by omega, fun h => absurd hc h⟩
  · refine ⟨fun _ => hc, fun _ => ?_⟩
    have hHe : H e = false := by
      cases h : H e
      · rfl
      · exact absurd rfl (st_del_t.mp (hHb.1 e he h)).2
    have hn : ¬ cl H e := fun h => hc (mt_mono ax hHb.1 h)
    have h1 : ws_card (st_ins H e) = ws_card H + 1 := ws_ins (fun _ => 1) hHe 10 he
    have hs2 : st_sub (st_ins H e) P := by
      intro x hx hm
      rw [st_ins_t] at hm
      rcases hm with hm | hm
      · exact hsub x hx hm
      · rw [hm]; exact hP
    obtain ⟨T, hT, hsT⟩ := gy_ext ax (P := P) _ (st_ins H e) (Nat.lt_succ_self _) hs2 (mt_ind_ins ax hHb.2.1 he hn)
    have h2 := gy_card ax hC hG hT
    have h3 : ws_card (st_ins H e) ≤ ws_card T := ws_mono 10 hsT
    omega
end
end
section
/-! ===== the graph: partitions, the closure of a set of edges, what the two programs compute of it ===== -/
noncomputable def gp_D (p : Prop) : Bool := @decide p (Classical.propDecidable p)
theorem gp_D_t {p : Prop} : gp_D p = true ↔ p := @decide_eq_true_iff p (Classical.propDecidable p)
theorem gp_D_f {p : Prop} : gp_D p = false ↔ ¬ p := @decide_eq_false_iff_not p (Classical.propDecidable p)
theorem gp_D_e {p q : Prop} (h : p ↔ q) : gp_D p = gp_D q := by rw [propext h]
def gp_mg (p : Nat → Nat) (a b : Nat) : Nat → Nat := fun v => if p v = p b then p a else p v
def gp_pt (A B : Nat → Nat) (S : Nat → Bool) : Nat → Nat → Nat
  | 0 => fun v => v
  | k + 1 => if S k = true then gp_mg (gp_pt A B S k) (A k) (B k) else gp_pt A B S k
def gp_ck (A B : Nat → Nat) (S : Nat → Bool) (k u v : Nat) : Prop :=
  ∀ f : Nat → Nat, (∀ e, e < k → S e = true → f (A e) = f (B e)) → f u = f v
def gp_cl (A B : Nat → Nat) (S : Nat → Bool) (e : Nat) : Prop := gp_ck A B S 10 (A e) (B e)
theorem gp_mg_eq {p : Nat → Nat} {a b u v : Nat} (h : p u = p v) : gp_mg p a b u = gp_mg p a b v := by
  unfold gp_mg; rw [h]
theorem gp_mg_ab {p : Nat → Nat} {a b : Nat} : gp_mg p a b a = gp_mg p a b b := by
  unfold gp_mg
  by_cases h : p a = p b
  · rw [if_pos h, if_pos rfl]
  · rw [if_neg h, if_pos rfl]
theorem gp_mg_id {p : Nat → Nat} {a b : Nat} (h : p a = p b) (v : Nat) : gp_mg p a b v = p v := by
  unfold gp_mg
  by_cases hv : p v = p b
  · rw [if_pos hv, h, hv]
  · rw [if_neg hv]
theorem gp_mg_lt {p : Nat → Nat} {a b : Nat} (ha : a < 6) (h : ∀ v, v < 6 → p v < 6) {v : Nat} (hv : v < 6) : gp_mg p a b v < 6 := by
  unfold gp_mg
  by_cases hx : p v = p b
  · rw [if_pos hx]; exact h a ha
  · rw [if_neg hx]; exact h v hv
section
variable {A B : Nat → Nat}
theorem gp_pt_lt (hA : ∀ e, A e < 6) (S : Nat → Bool) : ∀ k v, v < 6 → gp_pt A B S k v < 6 := by
  intro k
  induction k with
  | zero => intro v hv; exact hv
  | succ k ih =>
    intro v hv
    rw [gp_pt]
    by_cases h : S k = true
    · rw [if_pos h]; exact gp_mg_lt (hA k) ih hv
    · rw [if_neg h]; exact ih v hv
theorem gp_pt_edge (S : Nat → Bool) : ∀ k e, e < k → S e = true → gp_pt A B S k (A e) = gp_pt A B S k (B e) := by
  intro k
  induction k with
  | zero => intro e he; omega
  | succ k ih =>
    intro e he hs
    rw [gp_pt]
    by_cases hek : e = k
    · subst hek; rw [if_pos hs]; exact gp_mg_ab
    · have := ih e (by omega) hs
      by_cases h : S k = true
      · rw [if_pos h]; exact gp_mg_eq this
      · rw [if_neg h]; exact this
theorem gp_pt_rep (S : Nat → Bool) (f : Nat → Nat) : ∀ k, (∀ e, e < k → S e = true → f (A e) = f (B e)) → ∀ v, f (gp_pt A B S k v) = f v := by
  intro k
  induction k with
  | zero => intro _ v; rfl
  | succ k ih =>
    intro h v
    have ih := ih (fun e he => h e (by omega))
    rw [gp_pt]
    by_cases hs : S k = true
    · rw [if_pos hs]
      unfold gp_mg
      by_cases hv : gp_pt A B S k v = gp_pt A B S k (B k)
      · rw [if_pos hv, ih, h k (by omega) hs, ← ih (B k), ← hv, ih]
      · rw [if_neg hv, ih]
    · rw [if_neg hs, ih]
theorem gp_pt_iff (S : Nat → Bool) (k u v : Nat) : gp_pt A B S k u = gp_pt A B S k v ↔ gp_ck A B S k u v := by
  constructor
  · intro h f hf
    rw [← gp_pt_rep S f k hf u, ← gp_pt_rep S f k hf v, h]
  · intro h
    exact h _ (fun e he hs => gp_pt_edge S k e he hs)
theorem gp_ax : mt_ax (gp_cl A B) := by
  refine ⟨?_, ?_, ?_⟩
  · intro S T h e hc f hf
    exact hc f (fun x hx hs => h x hx hs f hf)
  · intro S e he hs f hf
    exact hf e he hs
  · intro S e g he hg hc hn f hf
    have hfS : ∀ x, x < 10 → S x = true → f (A x) = f (B x) := fun x hx hs => hf x hx (st_ins_t.mpr (Or.inl hs))
    have hfe : f (A e) = f (B e) := hf e he (st_ins_t.mpr (Or.inr rfl))
    have hr := gp_pt_rep S f 10 hfS
    have hne : gp_pt A B S 10 (A e) ≠ gp_pt A B S 10 (B e) := fun z => hn ((gp_pt_iff S 10 _ _).mp z)
    have hm := hc (gp_mg (gp_pt A B S 10) (A g) (B g)) (by
      intro x hx hs
      rw [st_ins_t] at hs
      rcases hs with hs | hs
      · exact gp_mg_eq (gp_pt_edge S 10 x hx hs)
      · rw [hs]; exact gp_mg_ab)
    unfold gp_mg at hm
    by_cases h1 : gp_pt A B S 10 (A e) = gp_pt A B S 10 (B g)
    · have h2 : ¬ gp_pt A B S 10 (B e) = gp_pt A B S 10 (B g) := fun z => hne (h1.trans z.symm)
      rw [if_pos h1, if_neg h2] at hm
      rw [← hr (A g), ← hr (B g), hm, ← h1, hr, hr, hfe]
    · by_cases h2 : gp_pt A B S 10 (B e) = gp_pt A B S 10 (B g)
      · rw [if_neg h1, if_pos h2] at hm
        rw [← hr (A g), ← hr (B g), ← hm, ← h2, hr, hr, hfe]
      · rw [if_neg h1, if_neg h2] at hm
        exact absurd hm hne
theorem gp_ck_lo (S : Nat → Bool) {k : Nat} (hk : k ≤ 10) (u v : Nat) : gp_ck A B S k u v ↔ gp_ck A B (fun x => S x && decide (x < k)) 10 u v := by
  constructor
  · intro h f hf
    refine h f (fun e he hs => hf e (by omega) ?_)
    simp [hs, he]
  · intro h f hf
    refine h f (fun e he hs => ?_)
    simp at hs
    exact hf e hs.2 hs.1
theorem gp_ck_congr {S T : Nat → Bool} (h : ∀ e, e < 10 → S e = T e) (u v : Nat) : gp_ck A B S 10 u v ↔ gp_ck A B T 10 u v := by
  constructor
  · intro hc f hf
    exact hc f (fun e he hs => hf e he (by rw [← h e he]; exact hs))
  · intro hc f hf
    exact hc f (fun e he hs => hf e he (by rw [h e he]; exact hs))
/-- no edge of the set closes a ring with the edges ahead of it -/
def gp_ok (A B : Nat → Nat) (S : Nat → Bool) : Nat → Bool
  | 0 => true
  | k + 1 => gp_ok A B S k && (!(S k) || !(decide (gp_pt A B S k (A k) = gp_pt A B S k (B k))))
theorem gp_ok_iff (S : Nat → Bool) : ∀ k, gp_ok A B S k = true ↔ ∀ e, e < k → S e = true → ¬ gp_ck A B S e (A e) (B e) := by
  intro k
  induction k with
  | zero => exact ⟨fun _ e he => absurd he (by omega), fun _ => rfl⟩
  | succ k ih =>
    rw [gp_ok, Bool.and_eq_true, ih]
    constructor
    · intro h e he hs hc
      by_cases hek : e = k
      · subst hek
        have h2 := h.2
        rw [hs, decide_eq_true ((gp_pt_iff S e _ _).mpr hc)] at h2
        exact absurd h2 (by decide)
      · exact h.1 e (by omega) hs hc
    · intro h
      refine ⟨fun e he => h e (by omega), ?_⟩
      cases hs : S k
      · rfl
      · have := h k (by omega) hs
        rw [← gp_pt_iff] at this
        rw [decide_eq_false this]; rfl
theorem gp_ok_ind (S : Nat → Bool) : gp_ok A B S 10 = true ↔ mt_ind (gp_cl A B) S := by
  rw [gp_ok_iff]
  constructor
  · intro h
    refine mt_seq gp_ax (o := fun x => x) (N := 10) (fun e he => he) (fun e g _ _ z => z) ?_
    intro e he hs hc
    exact h e he hs ((gp_ck_lo S (by omega) _ _).mpr hc)
  · intro h e he hs hc
    exact mt_seq' gp_ax (o := fun x => x) h he hs ((gp_ck_lo S (k := e) (by omega) _ _).mp hc)
end
/-- f goes before e when e weighs w -/
def gp_bf (C : Nat → Nat) (e w f : Nat) : Bool := !decide (f = e) && (decide (C f < w) || (decide (C f = w) && decide (f < e)))
def gp_S (C : Nat → Nat) (am e w : Nat) : Nat → Bool := fun f => am.testBit f && gp_bf C e w f
/-- e would stand in the greedy set of am if it weighed w -/
def gp_st (A B C : Nat → Nat) (am e w : Nat) : Bool := !decide (gp_pt A B (gp_S C am e w) 10 (A e) = gp_pt A B (gp_S C am e w) 10 (B e))
def gp_G (A B C : Nat → Nat) (am k : Nat) : Nat := tb_mk (fun e => am.testBit e && gp_st A B C am e (C e)) k
section
variable {A B C : Nat → Nat}
theorem gp_st_iff {am e w : Nat} : gp_st A B C am e w = true ↔ ¬ gp_cl A B (gp_S C am e w) e := by
  unfold gp_st gp_cl
  rw [Bool.not_eq_true', decide_eq_false_iff_not, gp_pt_iff]
theorem gp_bf_o {e f : Nat} (he : e < 10) (hf : f < 10) : gp_bf C e (C e) f = decide (ws_o C f < ws_o C e) := by
  unfold gp_bf ws_o
  rw [Bool.eq_iff_iff]
  by_cases h : f = e
  · subst h; simp
  · simp [h]; omega
theorem gp_S_lo {am e : Nat} (he : e < 10) : ∀ f, f < 10 → gp_S C am e (C e) f = st_lo am.testBit (ws_o C) e f := by
  intro f hf
  unfold gp_S st_lo
  rw [gp_bf_o he hf]
theorem gp_G_lt {am : Nat} : gp_G A B C am 10 < 1024 := tb_mk_lt _ 10 (Nat.le_refl _)
theorem gp_G_b {am e : Nat} (he : e < 10) : (gp_G A B C am 10).testBit e = (am.testBit e && gp_st A B C am e (C e)) := by
  rw [gp_G, tb_mk_b, decide_eq_true he, Bool.and_true]
theorem gp_G_gr (am : Nat) : mt_gr (gp_cl A B) am.testBit (ws_o C) (gp_G A B C am 10).testBit := by
  intro e he
  rw [gp_G_b he, Bool.and_eq_true, gp_st_iff]
  have : gp_cl A B (gp_S C am e (C e)) e ↔ gp_cl A B (st_lo am.testBit (ws_o C) e) e := gp_ck_congr (gp_S_lo he) _ _
  rw [this]
/-- basis of P, as a Bool -/
noncomputable def gp_bs (A B : Nat → Nat) (P s : Nat) : Bool := gp_D (mt_bas (gp_cl A B) P.testBit s.testBit)
theorem gp_bs_t {P s : Nat} : gp_bs A B P s = true ↔ mt_bas (gp_cl A B) P.testBit s.testBit := gp_D_t
theorem gp_bas_G (hC : ∀ e, e < 10 → C e ≤ 50) (P : Nat) : gp_bs A B P (gp_G A B C P 10) = true :=
  gp_bs_t.mpr (mt_gr_bas gp_ax (ws_o_b hC) (ws_o_inj C) (gp_G_gr P))
/-- X's test of a spanning forest -/
theorem gp_bs_X (hC : ∀ e, e < 10 → C e ≤ 50) (P s : Nat) :
    gp_bs A B P s = true ↔ (∀ e, e < 10 → s.testBit e = true → P.testBit e = true) ∧ ws_card s.testBit = ws_card (gp_G A B C P 10).testBit ∧ gp_ok A B s.testBit 10 = true := by
  rw [gp_bs_t, gp_ok_ind]
  constructor
  · intro h
    exact ⟨h.1, gy_card gp_ax hC (gp_G_gr P) h, h.2.1⟩
  · intro h
    exact gy_size gp_ax hC (gp_G_gr P) h.1 h.2.2 h.2.1
noncomputable def gp_fo (A B : Nat → Nat) (P s : Nat) : Bool := gp_D (∀ e, e < 10 → s.testBit e = true → P.testBit e = true) && gp_ok A B s.testBit 10
theorem gp_fo_t {P s : Nat} : gp_fo A B P s = true ↔ st_sub s.testBit P.testBit ∧ mt_ind (gp_cl A B) s.testBit := by
  unfold gp_fo
  rw [Bool.and_eq_true, gp_D_t, gp_ok_ind]
  exact Iff.rfl
theorem gp_or_ins {s e : Nat} : (s ||| 2 ^ e).testBit = st_ins s.testBit e := by
  funext i
  rw [tb_or_b]
  unfold st_ins
  congr 1
  exact decide_eq_decide.mpr ⟨fun h => h.symm, fun h => h.symm⟩
/-- Y's test of a spanning forest -/
theorem gp_bs_Y (P s : Nat) :
    gp_bs A B P s = true ↔ gp_fo A B P s = true ∧ ∀ e, e < 10 → s.testBit e = true ∨ gp_fo A B P (s ||| 2 ^ e) = false := by
  rw [gp_bs_t]
  constructor
  · intro h
    refine ⟨gp_fo_t.mpr ⟨h.1, h.2.1⟩, ?_⟩
    intro e he
    cases hs : s.testBit e
    · right
      cases hf : gp_fo A B P (s ||| 2 ^ e)
      · rfl
      · exfalso
        rw [gp_fo_t, gp_or_ins] at hf
        have hPe := hf.1 e he (st_ins_t.mpr (Or.inr rfl))
        apply hf.2 e he (st_ins_t.mpr (Or.inr rfl))
        refine mt_mono gp_ax ?_ (h.2.2 e he hPe)
        intro x hx hm
        rw [st_del_t, st_ins_t]
        refine ⟨Or.inl hm, ?_⟩
        intro hxe
        rw [hxe, hs] at hm
        exact absurd hm (by decide)
    · exact Or.inl rfl
  · intro h
    have h1 := gp_fo_t.mp h.1
    refine ⟨h1.1, h1.2, ?_⟩
    intro e he hp
    refine Classical.byContradiction fun hn => ?_
    rcases h.2 e he with hs | hf
    · exact hn (gp_ax.2.1 _ e he hs)
    · have : gp_fo A B P (s ||| 2 ^ e) = true := by
        rw [gp_fo_t, gp_or_ins]
        refine ⟨?_, mt_ind_ins gp_ax h1.2 he hn⟩
        intro x hx hm
        rw [st_ins_t] at hm
        rcases hm with hm | hm
        · exact h1.1 x hx hm
        · rw [hm]; exact hp
      rw [this] at hf
      exact absurd hf (by decide)
theorem gp_mk_fun (T : Nat → Bool) : ∀ e, e < 10 → (tb_mk T 10).testBit e = T e := by
  intro e he
  rw [tb_mk_b, decide_eq_true he, Bool.and_true]
theorem gp_bas_congr {P T U : Nat → Bool} (h : ∀ e, e < 10 → T e = U e) (hT : mt_bas (gp_cl A B) P T) : mt_bas (gp_cl A B) P U := by
  have hs : st_sub T U := fun e he z => by rw [← h e he]; exact z
  have hs' : st_sub U T := fun e he z => by rw [h e he]; exact z
  exact ⟨fun e he z => hT.1 e he (hs' e he z), mt_ind_sub gp_ax hs' hT.2.1, fun e he z => mt_mono gp_ax hs (hT.2.2 e he z)⟩
/-- e is in every spanning forest -/
theorem gp_need {P e : Nat} (he : e < 10) (hP : P.testBit e = true) :
    (∀ s, s < 1024 → gp_bs A B P s = true → s.testBit e = true) ↔ ¬ gp_cl A B (st_del P.testBit e) e := by
  rw [← gy_need gp_ax he hP]
  constructor
  · intro h T hT
    rw [← gp_mk_fun T e he]
    exact h _ (tb_mk_lt T 10 (Nat.le_refl _)) (gp_bs_t.mpr (gp_bas_congr (fun x hx => (gp_mk_fun T x hx).symm) hT))
  · intro h s _ hs
    exact h _ (gp_bs_t.mp hs)
theorem gp_first (hC : ∀ e, e < 10 → C e ≤ 50) {P s : Nat} (hs : s < 1024) (hb : gp_bs A B P s = true) :
    s = gp_G A B C P 10 ∨ ws_key C (gp_G A B C P 10).testBit < ws_key C s.testBit := by
  rcases gy_first gp_ax hC (gp_G_gr P) (gp_bs_t.mp hb) with h | h
  · exact Or.inl (tb_ext hs gp_G_lt h)
  · exact Or.inr h
end
end
section
/-! ===== the component's walks ===== -/
def gp_n (A : Nat → Nat) : Nat → Int32 := fun e => nI (A e)
theorem gp_n_at {A : Nat → Nat} {e : Nat} (he : e < 10) : gp_n A (nI e).toNatClampNeg = nI (A e) := by
  rw [nI_clamp (by omega)]; rfl
theorem tb_br {b : Bool} {X Y : Prop} (f : b = false → X) (g : b = true → Y) : (tb_B b = 0 → X) ∧ (¬ tb_B b = 0 → Y) :=
  ⟨fun h => f ((tb_B0 b).mp h), fun h => g (by cases b; exact absurd rfl h; rfl)⟩
theorem xw_cont {post : Int32 → Prop} {s e : Nat} (hs : s < 1024) (he : e < 10) (h : post (tb_B (s.testBit e))) : wpX_contains post (nI s) (nI e) :=
  br_f (nI_pos (by omega)) (pk_le 10 e (fun z => absurd z (by omega)) (fun _ => br_c
    (fun z => by rw [tb_has hs he] at z; rw [z] at h; exact h)
    (fun z => by
      rw [tb_has hs he, Bool.not_eq_false] at z
      rw [z] at h; exact h)))
theorem xw_cont_out {post : Int32 → Prop} {s x : Int32} (hx : x < 0 ∨ nI 10 ≤ x) (h : post 0) : wpX_contains post s x := by
  by_cases h0 : x < 0
  · exact br_t h0 h
  · exact br_f h0 (br_t (hx.resolve_left h0) h)
theorem xw_sep_l {post : SX → Prop} {pr : Int32} {ea eb co : Nat → Int32} (h : ∀ q : Nat → Int32, (∀ v, v < 6 → q v = nI v) → post (pr, ea, eb, co, q)) :
    ∀ d k, k + d = 6 → ∀ pa : Nat → Int32, (∀ v, v < k → pa v = nI v) → wX_separate_2 post pr (d + 1) (nI k) ea eb co pa := by
  intro d
  induction d with
  | zero =>
    intro k hk pa hp
    exact pk_le 6 k (fun _ => h pa (fun v hv => hp v (by omega))) (fun z => absurd z (by omega))
  | succ d ih =>
    intro k hk pa hp
    refine pk_le 6 k (fun z => absurd z (by omega)) (fun _ => ⟨vp_in_nI (by omega) (by omega), nm_r (e' := upd pa k (nI k)) (by rw [nI_clamp (by omega)]) (nm_r (nI_1 k) (ih (k + 1) (by omega) _ ?_))⟩)
    intro v hv
    by_cases hvk : v = k
    · subst hvk; exact pk_us
    · rw [pk_un hvk]; exact hp v (by omega)
theorem xw_sep {post : SX → Prop} {pr : Int32} {ea eb co pa : Nat → Int32} (h : ∀ q : Nat → Int32, (∀ v, v < 6 → q v = nI v) → post (pr, ea, eb, co, q)) :
    wpX_separate post (pr, ea, eb, co, pa) :=
  ⟨_, xw_sep_l h 6 0 rfl pa (fun _ h => absurd h (by omega))⟩
theorem xw_link_l {post : Int32 → SX → Prop} {pr : Int32} {ea eb co : Nat → Int32} {p : Nat → Nat} {a b : Nat} (hb : b < 6) (hp : ∀ v, v < 6 → p v < 6)
    (h : ∀ q : Nat → Int32, (∀ v, v < 6 → q v = nI (gp_mg p a b v)) → post 1 (pr, ea, eb, co, q)) :
    ∀ d k, k + d = 6 → ∀ pa : Nat → Int32, (∀ v, v < 6 → pa v = nI (if v < k then gp_mg p a b v else p v)) → wX_link_34 post (nI (p a)) (nI (p b)) pr (d + 1) (nI k) ea eb co pa := by
  intro d
  induction d with
  | zero =>
    intro k hk pa hq
    exact pk_le 6 k (fun _ => h pa (fun v hv => by rw [hq v hv, if_pos (by omega)])) (fun z => absurd z (by omega))
  | succ d ih =>
    intro k hk pa hq
    have hpk : pa (nI k).toNatClampNeg = nI (p k) := by rw [nI_clamp (by omega), hq k (by omega), if_neg (by omega)]
    have h1 := hp k (by omega)
    have h2 := hp b hb
    refine pk_le 6 k (fun z => absurd z (by omega)) (fun _ => ⟨vp_in_nI (by omega) (by omega), pk_eq (p k) (p b)
      (fun z => ⟨vp_in_nI (by omega) (by omega), nm_r (e' := upd pa k (nI (p a))) (by rw [nI_clamp (by omega)]) (nm_r (nI_1 k) (ih (k + 1) (by omega) _ ?_))⟩)
      (fun z => nm_r (nI_1 k) (ih (k + 1) (by omega) _ ?_)) hpk rfl (by omega) (by omega)⟩)
    · intro v hv
      by_cases hvk : v = k
      · subst hvk
        rw [pk_us, if_pos (by omega)]
        unfold gp_mg
        rw [if_pos z]
      · rw [pk_un hvk, hq v hv]
        by_cases hl : v < k
        · rw [if_pos hl, if_pos (by omega)]
        · rw [if_neg hl, if_neg (by omega)]
    · intro v hv
      rw [hq v hv]
      by_cases hvk : v = k
      · subst hvk
        rw [if_neg (by omega), if_pos (by omega)]
        unfold gp_mg
        rw [if_neg z]
      · by_cases hl : v < k
        · rw [if_pos hl, if_pos (by omega)]
        · rw [if_neg hl, if_neg (by omega)]
theorem xw_link {post : Int32 → SX → Prop} {pr : Int32} {A B : Nat → Nat} {co pa : Nat → Int32} {p : Nat → Nat} {e : Nat} (he : e < 10) (hA : ∀ e, A e < 6) (hB : ∀ e, B e < 6)
    (hp : ∀ v, v < 6 → p v < 6) (hq : ∀ v, v < 6 → pa v = nI (p v))
    (h : ∀ q : Nat → Int32, (∀ v, v < 6 → q v = nI (gp_mg p (A e) (B e) v)) → post (tb_B (!decide (p (A e) = p (B e)))) (pr, gp_n A, gp_n B, co, q)) :
    wpX_link post (pr, gp_n A, gp_n B, co, pa) (nI e) := by
  have ie : vp_in (nI e) 10 := vp_in_nI he (by omega)
  have hAe := hA e
  have hBe := hB e
  have h1 := hp _ hAe
  have h2 := hp _ hBe
  have eA : gp_n A (nI e).toNatClampNeg = nI (A e) := gp_n_at he
  have eB : gp_n B (nI e).toNatClampNeg = nI (B e) := gp_n_at he
  have pA : pa (gp_n A (nI e).toNatClampNeg).toNatClampNeg = nI (p (A e)) := by rw [eA, nI_clamp (by omega), hq _ hAe]
  have pB : pa (gp_n B (nI e).toNatClampNeg).toNatClampNeg = nI (p (B e)) := by rw [eB, nI_clamp (by omega), hq _ hBe]
  refine ⟨ie, by rw [eA]; exact vp_in_nI hAe (by omega), nm_r pA ⟨ie, by rw [eB]; exact vp_in_nI hBe (by omega), nm_r pB (pk_eq (p (A e)) (p (B e)) (fun z => ?_) (fun z => ?_) rfl rfl (by omega) (by omega))⟩⟩
  · have := h pa (fun v hv => by rw [hq v hv, gp_mg_id z])
    rw [decide_eq_true z] at this
    exact this
  · refine ⟨7, xw_link_l hBe hp ?_ 6 0 rfl pa (fun v hv => by rw [hq v hv, if_neg (by omega)])⟩
    intro q hq
    have := h q hq
    rw [decide_eq_false z] at this
    exact this
theorem xw_before {post : Int32 → Prop} {pr : Int32} {ea eb pa : Nat → Int32} {C : Nat → Nat} {e w f : Nat} (he : e < 10) (hf : f < 10) (hw : w < 1000) (hC : ∀ e, C e ≤ 50)
    (h : post (tb_B (gp_bf C e w f))) : wpX_goesBefore post (pr, ea, eb, gp_n C, pa) (nI f) (nI e) (nI w) := by
  have i : vp_in (nI f) 10 := vp_in_nI hf (by omega)
  have hc : gp_n C (nI f).toNatClampNeg = nI (C f) := gp_n_at hf
  have hl := hC f
  have k0 : gp_bf C e w f = false → post 0 := fun z => by rw [z] at h; exact h
  have k1 : gp_bf C e w f = true → post 1 := fun z => by rw [z] at h; exact h
  refine pk_eq f e (fun z => k0 (by simp [gp_bf, z])) (fun z1 => ⟨i, pk_lt (C f) w (fun z2 => k1 (by simp [gp_bf, z1, z2])) (fun z2 => ⟨i, pk_eq (C f) w
    (fun z3 => pk_le e f (fun z4 => k0 ?_) (fun z4 => k1 ?_)) (fun z3 => k0 ?_) hc rfl (by omega) (by omega)⟩) hc rfl (by omega) (by omega)⟩)
  · have : ¬ f < e := by omega
    simp [gp_bf, z3, this]
  · simp [gp_bf, z1, z3, z4]
  · have : ¬ C f < w := by omega
    simp [gp_bf, z3, this]
theorem xw_stands_l {A B C : Nat → Nat} {post : Int32 → SX → Prop} {pr : Int32} {am e w : Nat} (hA : ∀ e, A e < 6) (hB : ∀ e, B e < 6) (hC : ∀ e, C e ≤ 50)
    (ham : am < 1024) (he : e < 10) (hw : w < 1000)
    (h : ∀ q : Nat → Int32, post (tb_B (gp_st A B C am e w)) (pr, gp_n A, gp_n B, gp_n C, q)) :
    ∀ d k, k + d = 10 → ∀ pa : Nat → Int32, (∀ v, v < 6 → pa v = nI (gp_pt A B (gp_S C am e w) k v)) → wX_stands_7 post (nI e) (nI w) (nI am) (d + 1) (nI k) pr (gp_n A) (gp_n B) (gp_n C) pa := by
  intro d
  induction d with
  | zero =>
    intro k hk pa hq
    have hk : k = 10 := by omega
    subst hk
    have ie : vp_in (nI e) 10 := vp_in_nI he (by omega)
    have hAe := hA e
    have hBe := hB e
    have h1 := gp_pt_lt (B := B) hA (gp_S C am e w) 10 _ hAe
    have h2 := gp_pt_lt (B := B) hA (gp_S C am e w) 10 _ hBe
    have eA : gp_n A (nI e).toNatClampNeg = nI (A e) := gp_n_at he
    have eB : gp_n B (nI e).toNatClampNeg = nI (B e) := gp_n_at he
    have pA : pa (gp_n A (nI e).toNatClampNeg).toNatClampNeg = nI (gp_pt A B (gp_S C am e w) 10 (A e)) := by rw [eA, nI_clamp (by omega), hq _ hAe]
    have pB : pa (gp_n B (nI e).toNatClampNeg).toNatClampNeg = nI (gp_pt A B (gp_S C am e w) 10 (B e)) := by rw [eB, nI_clamp (by omega), hq _ hBe]
    refine pk_le 10 10 (fun _ => ⟨ie, by rw [eA]; exact vp_in_nI hAe (by omega), ie, by rw [eB]; exact vp_in_nI hBe (by omega), pk_eq _ _ (fun z => ?_) (fun z => ?_) pA pB (by omega) (by omega)⟩) (fun z => absurd z (by omega))
    · have := h pa
      unfold gp_st at this
      rw [decide_eq_true z] at this
      exact this
    · have := h pa
      unfold gp_st at this
      rw [decide_eq_false z] at this
      exact this
  | succ d ih =>
    intro k hk pa hq
    refine pk_le 10 k (fun z => absurd z (by omega)) (fun _ => xw_cont ham (by omega) (tb_br (fun z => ?_) (fun z => xw_before he (by omega) hw hC (tb_br (fun z2 => ?_)
      (fun z2 => xw_link (by omega) hA hB (gp_pt_lt hA (gp_S C am e w) k) hq ?_)))))
    · exact nm_r (nI_1 k) (ih (k + 1) (by omega) pa (fun v hv => by rw [hq v hv, gp_pt, if_neg (by simp [gp_S, z])]))
    · exact nm_r (nI_1 k) (ih (k + 1) (by omega) pa (fun v hv => by rw [hq v hv, gp_pt, if_neg (by simp [gp_S, z2])]))
    · intro q hq'
      exact nm_r (nI_1 k) (ih (k + 1) (by omega) q (fun v hv => by rw [hq' v hv, gp_pt, if_pos (by simp [gp_S, z, z2])]))
theorem xw_stands {A B C : Nat → Nat} {post : Int32 → SX → Prop} {pr x : Int32} {pa : Nat → Int32} {am e w : Nat} (hA : ∀ e, A e < 6) (hB : ∀ e, B e < 6) (hC : ∀ e, C e ≤ 50)
    (ham : am < 1024) (he : e < 10) (hw : w < 1000) (hx : x = nI w)
    (h : ∀ q : Nat → Int32, post (tb_B (gp_st A B C am e w)) (pr, gp_n A, gp_n B, gp_n C, q)) :
    wpX_stands post (pr, gp_n A, gp_n B, gp_n C, pa) (nI e) x (nI am) := by
  subst hx
  exact xw_sep (fun q hq => ⟨_, xw_stands_l hA hB hC ham he hw h 10 0 rfl q hq⟩)
theorem xw_chosen_l {A B C : Nat → Nat} {post : Int32 → SX → Prop} {pr : Int32} {am : Nat} (hA : ∀ e, A e < 6) (hB : ∀ e, B e < 6) (hC : ∀ e, C e ≤ 50)
    (ham : am < 1024) (h : ∀ q : Nat → Int32, post (nI (gp_G A B C am 10)) (pr, gp_n A, gp_n B, gp_n C, q)) :
    ∀ d k, k + d = 10 → ∀ pa : Nat → Int32, wX_chosenAmong_4 post (nI am) (d + 1) (nI (gp_G A B C am k)) (nI k) pr (gp_n A) (gp_n B) (gp_n C) pa := by
  intro d
  induction d with
  | zero =>
    intro k hk pa
    have hk : k = 10 := by omega
    subst hk
    exact pk_le 10 10 (fun _ => h pa) (fun z => absurd z (by omega))
  | succ d ih =>
    intro k hk pa
    have hc := hC k
    refine pk_le 10 k (fun z => absurd z (by omega)) (fun _ => xw_cont ham (by omega) (tb_br (fun z => ?_) (fun z => ⟨vp_in_nI (by omega) (by omega),
      xw_stands hA hB hC ham (by omega) (by omega) (gp_n_at (by omega)) (fun q => tb_br (fun z2 => ?_) (fun z2 => ?_))⟩)))
    · have := ih (k + 1) (by omega) pa
      rw [gp_G, tb_mk, if_neg (by simp [z])] at this
      exact nm_r (nI_1 k) this
    · have := ih (k + 1) (by omega) q
      rw [gp_G, tb_mk, if_neg (by simp [z2])] at this
      exact nm_r (nI_1 k) this
    · have := ih (k + 1) (by omega) q
      rw [gp_G, tb_mk, if_pos (by simp [z, z2]), ← tb_or, ← tb_shl k (by omega)] at this
      exact nm_e (nm_r (nI_1 k) this)
theorem xw_chosen {A B C : Nat → Nat} {post : Int32 → SX → Prop} {pr : Int32} {pa : Nat → Int32} {am : Nat} (hA : ∀ e, A e < 6) (hB : ∀ e, B e < 6) (hC : ∀ e, C e ≤ 50)
    (ham : am < 1024) (h : ∀ q : Nat → Int32, post (nI (gp_G A B C am 10)) (pr, gp_n A, gp_n B, gp_n C, q)) :
    wpX_chosenAmong post (pr, gp_n A, gp_n B, gp_n C, pa) (nI am) :=
  ⟨_, xw_chosen_l hA hB hC ham h 10 0 rfl pa⟩
theorem xw_weight_l {C : Nat → Nat} {post : Int32 → Prop} {pr : Int32} {ea eb pa : Nat → Int32} {s : Nat} (hs : s < 1024) (h : post (nI (ws_sm C s.testBit 10))) :
    ∀ d k, k + d = 10 → wX_weightOf_4 post (nI s) pr ea eb (gp_n C) pa (d + 1) (nI (ws_sm C s.testBit k)) (nI k) := by
  intro d
  induction d with
  | zero =>
    intro k hk
    have hk : k = 10 := by omega
    subst hk
    exact pk_le 10 10 (fun _ => h) (fun z => absurd z (by omega))
  | succ d ih =>
    intro k hk
    refine pk_le 10 k (fun z => absurd z (by omega)) (fun _ => xw_cont hs (by omega) (tb_br (fun z => ?_) (fun z => ⟨vp_in_nI (by omega) (by omega), ?_⟩)))
    · have := ih (k + 1) (by omega)
      rw [ws_sm, z] at this
      exact nm_r (nI_1 k) this
    · have := ih (k + 1) (by omega)
      rw [ws_sm, if_pos z] at this
      exact nm_r (by rw [gp_n_at (by omega), nI_add]) (nm_r (nI_1 k) this)
theorem xw_weight {C : Nat → Nat} {post : Int32 → Prop} {pr : Int32} {ea eb pa : Nat → Int32} {s : Nat} (hs : s < 1024) (h : post (nI (ws_sm C s.testBit 10))) :
    wpX_weightOf post (pr, ea, eb, gp_n C, pa) (nI s) :=
  ⟨_, xw_weight_l hs h 10 0 rfl⟩
theorem xw_size_l {post : Int32 → Prop} {s : Nat} (hs : s < 1024) (h : post (nI (ws_card s.testBit))) :
    ∀ d k, k + d = 10 → wX_sizeOf_4 post (nI s) (d + 1) (nI (ws_sm (fun _ => 1) s.testBit k)) (nI k) := by
  intro d
  induction d with
  | zero =>
    intro k hk
    have hk : k = 10 := by omega
    subst hk
    exact pk_le 10 10 (fun _ => h) (fun z => absurd z (by omega))
  | succ d ih =>
    intro k hk
    refine pk_le 10 k (fun z => absurd z (by omega)) (fun _ => xw_cont hs (by omega) (tb_br (fun z => ?_) (fun z => ?_)))
    · have := ih (k + 1) (by omega)
      rw [ws_sm, z] at this
      exact nm_r (nI_1 k) this
    · have := ih (k + 1) (by omega)
      rw [ws_sm, if_pos z] at this
      exact nm_r (nI_1 _) (nm_r (nI_1 k) this)
theorem xw_size {post : Int32 → Prop} {s : Nat} (hs : s < 1024) (h : post (nI (ws_card s.testBit))) : wpX_sizeOf post (nI s) :=
  ⟨_, xw_size_l hs h 10 0 rfl⟩
theorem gp_ok_f {A B : Nat → Nat} {S : Nat → Bool} {k : Nat} (h : gp_ok A B S k = false) : ∀ d, gp_ok A B S (k + d) = false := by
  intro d
  induction d with
  | zero => exact h
  | succ d ih => rw [← Nat.add_assoc, gp_ok, ih, Bool.false_and]
theorem xw_span_l {A B C : Nat → Nat} {post : Int32 → SX → Prop} {pr : Int32} {s : Nat} (hA : ∀ e, A e < 6) (hB : ∀ e, B e < 6)
    (hs : s < 1024) (h : ∀ q : Nat → Int32, post (tb_B (gp_ok A B s.testBit 10)) (pr, gp_n A, gp_n B, gp_n C, q)) :
    ∀ d k, k + d = 10 → gp_ok A B s.testBit k = true → ∀ pa : Nat → Int32, (∀ v, v < 6 → pa v = nI (gp_pt A B s.testBit k v)) → wX_isSpanningForest_27 post (nI s) (d + 1) (nI k) pr (gp_n A) (gp_n B) (gp_n C) pa := by
  intro d
  induction d with
  | zero =>
    intro k hk ho pa hq
    have hk : k = 10 := by omega
    subst hk
    rw [ho] at h
    exact pk_le 10 10 (fun _ => h pa) (fun z => absurd z (by omega))
  | succ d ih =>
    intro k hk ho pa hq
    refine pk_le 10 k (fun z => absurd z (by omega)) (fun _ => xw_cont hs (by omega) (tb_br (fun z => ?_) (fun z => xw_link (by omega) hA hB (gp_pt_lt hA s.testBit k) hq (fun q hq' => tb_br (fun z2 => ?_) (fun z2 => ?_)))))
    · exact nm_r (nI_1 k) (ih (k + 1) (by omega) (by rw [gp_ok, ho, z]; rfl) pa (fun v hv => by rw [hq v hv, gp_pt, if_neg (by simp [z])]))
    · have h1 : gp_ok A B s.testBit (k + 1) = false := by rw [gp_ok, z, z2]; simp
      have h2 := gp_ok_f h1 d
      rw [show k + 1 + d = 10 by omega] at h2
      rw [h2] at h
      exact h q
    · exact nm_r (nI_1 k) (ih (k + 1) (by omega) (by rw [gp_ok, ho, z, z2]; rfl) q (fun v hv => by rw [hq' v hv, gp_pt, if_pos z]))
theorem xw_span {A B C : Nat → Nat} {post : Int32 → SX → Prop} {pa : Nat → Int32} {P s : Nat} (hA : ∀ e, A e < 6) (hB : ∀ e, B e < 6) (hC : ∀ e, C e ≤ 50)
    (hs : s < 1024) (h : ∀ q : Nat → Int32, post (tb_B (gp_bs A B P s)) (nI P, gp_n A, gp_n B, gp_n C, q)) :
    wpX_isSpanningForest post (nI P, gp_n A, gp_n B, gp_n C, pa) (nI s) (nI (ws_card (gp_G A B C P 10).testBit)) := by
  have hX := gp_bs_X (A := A) (B := B) (fun e _ => hC e) P s
  have k0 : ¬ gp_bs A B P s = true → ∀ q, post 0 (nI P, gp_n A, gp_n B, gp_n C, q) := fun z q => by
    rw [Bool.not_eq_true] at z
    rw [z] at h; exact h q
  have l1 : ws_card s.testBit ≤ 10 * 1 := ws_le 10 (fun _ _ => Nat.le_refl _)
  have l2 : ws_card (gp_G A B C P 10).testBit ≤ 10 * 1 := ws_le 10 (fun _ _ => Nat.le_refl _)
  refine br_c (fun z => xw_size hs (pk_eq _ _ (fun z2 => xw_sep (fun q hq => ⟨_, xw_span_l hA hB hs ?_ 10 0 rfl rfl q hq⟩)) (fun z2 => k0 (fun y => z2 (hX.mp y).2.1) pa) rfl rfl (by omega) (by omega))) (fun z => k0 (fun y => z ((tb_sub hs).mpr (hX.mp y).1)) pa)
  intro q
  have : gp_bs A B P s = gp_ok A B s.testBit 10 := by
    rw [Bool.eq_iff_iff, hX]
    exact ⟨fun y => y.2.2, fun y => ⟨(tb_sub hs).mp z, z2, y⟩⟩
  rw [← this]
  exact h q
theorem xw_cheap {A B C : Nat → Nat} {post : Int32 → SX → Prop} {pa : Nat → Int32} {P s L : Nat} (hA : ∀ e, A e < 6) (hB : ∀ e, B e < 6) (hC : ∀ e, C e ≤ 50)
    (hs : s < 1024) (hL : L ≤ 500) (h : ∀ q : Nat → Int32, post (tb_B (gp_bs A B P s && decide (ws_sm C s.testBit 10 = L))) (nI P, gp_n A, gp_n B, gp_n C, q)) :
    wpX_isCheapestForest post (nI P, gp_n A, gp_n B, gp_n C, pa) (nI s) (nI (ws_card (gp_G A B C P 10).testBit)) (nI L) := by
  have l1 : ws_sm C s.testBit 10 ≤ 10 * 50 := ws_le 10 (fun e _ => hC e)
  refine xw_span hA hB hC hs (fun q => tb_br (fun z => ?_) (fun z => xw_weight hs (pk_eq _ _ (fun z2 => ?_) (fun z2 => ?_) rfl rfl (by omega) (by omega))))
  · have := h q
    rw [z] at this; exact this
  · have := h q
    rw [z, decide_eq_true z2] at this; exact this
  · have := h q
    rw [z, decide_eq_false z2] at this; exact this
end
section
/-! ===== the reference's walks ===== -/
def gp_th (P : Nat) : Nat → Int32 := fun e => tb_B (P.testBit e)
theorem gp_th_at {P e : Nat} (he : e < 10) : gp_th P (nI e).toNatClampNeg = tb_B (P.testBit e) := by
  rw [nI_clamp (by omega)]; rfl
theorem tb_brE {x : Int32} {b : Bool} {X Y : Prop} (hx : x = tb_B b) (f : b = false → X) (g : b = true → Y) : (x = 0 → X) ∧ (¬ x = 0 → Y) := by
  subst hx; exact tb_br f g
theorem tb_br1 {x : Int32} {b : Bool} {X Y : Prop} (hx : x = tb_B b) (f : b = true → X) (g : b = false → Y) : (x = 1 → X) ∧ (¬ x = 1 → Y) := by
  subst hx
  exact ⟨fun h => f ((tb_B1 b).mp h), fun h => g (by cases b; rfl; exact absurd rfl h)⟩
theorem yw_is {post : Int32 → Prop} {on tw he fo sp pa : Nat → Int32} {P e : Nat} (hl : e < 10) (h : post (tb_B (P.testBit e))) : wpY_is post (gp_th P, on, tw, he, fo, sp, pa) (nI e) :=
  br_f (nI_pos (by omega)) (pk_le 10 e (fun z => absurd z (by omega)) (fun _ => ⟨vp_in_nI hl (by omega), tb_brE (gp_th_at hl)
    (fun z => by rw [z] at h; exact h) (fun z => by rw [z] at h; exact h)⟩))
theorem yw_is_out {post : Int32 → Prop} {v : SY} {x : Int32} (hx : x < 0 ∨ nI 10 ≤ x) (h : post 0) : wpY_is post v x := by
  by_cases h0 : x < 0
  · exact br_t h0 h
  · exact br_f h0 (br_t (hx.resolve_left h0) h)
theorem yw_edges_l {post : Int32 → Prop} {on tw he fo sp pa : Nat → Int32} {P : Nat} (h : post (nI (tb_mk P.testBit 10))) :
    ∀ d k, k + d = 10 → wY_edges_4 post (gp_th P) on tw he fo sp pa (d + 1) (nI (tb_mk P.testBit k)) (nI k) := by
  intro d
  induction d with
  | zero =>
    intro k hk
    have hk : k = 10 := by omega
    subst hk
    exact pk_le 10 10 (fun _ => h) (fun z => absurd z (by omega))
  | succ d ih =>
    intro k hk
    refine pk_le 10 k (fun z => absurd z (by omega)) (fun _ => ⟨vp_in_nI (by omega) (by omega), tb_brE (gp_th_at (by omega)) (fun z => ?_) (fun z => ?_)⟩)
    · have := ih (k + 1) (by omega)
      rw [tb_mk, if_neg (by simp [z])] at this
      exact nm_r ((tb_or _ 0).trans (by rw [Nat.or_zero])) (nm_r (nI_1 k) this)
    · have := ih (k + 1) (by omega)
      rw [tb_mk, if_pos z, ← tb_or, ← tb_shl k (by omega)] at this
      exact nm_e (nm_r (nI_1 k) this)
theorem tb_mk_self {P : Nat} (hP : P < 1024) : tb_mk P.testBit 10 = P :=
  tb_ext (tb_mk_lt _ 10 (Nat.le_refl _)) hP (fun e he => gp_mk_fun _ e he)
theorem yw_edges {post : Int32 → Prop} {on tw he fo sp pa : Nat → Int32} {P : Nat} (hP : P < 1024) (h : post (nI P)) : wpY_edges post (gp_th P, on, tw, he, fo, sp, pa) :=
  ⟨_, yw_edges_l (by rw [tb_mk_self hP]; exact h) 10 0 rfl⟩
theorem yw_j86 {post : Int32 → SY → Prop} {J : Int32 → Int32 → (Nat → Int32) → (Nat → Int32) → (Nat → Int32) → (Nat → Int32) → (Nat → Int32) → (Nat → Int32) → (Nat → Int32) → Prop}
    {x1 x2 x3 : Int32} {th on tw he fo sp : Nat → Int32} {p : Nat → Nat} {a b : Nat} (hb : b < 6) (hp : ∀ v, v < 6 → p v < 6)
    (h : ∀ q : Nat → Int32, (∀ v, v < 6 → q v = nI (gp_mg p a b v)) → J x2 (x3 + 1) th on tw he fo sp q) :
    ∀ d k, k + d = 6 → ∀ pa : Nat → Int32, (∀ v, v < 6 → pa v = nI (if v < k then gp_mg p a b v else p v)) → wY_join_86 post J x1 x2 x3 (nI (p a)) (nI (p b)) (d + 1) (nI k) th on tw he fo sp pa := by
  intro d
  induction d with
  | zero =>
    intro k hk pa hq
    exact pk_le 6 k (fun _ => nm_e (h pa (fun v hv => by rw [hq v hv, if_pos (by omega)]))) (fun z => absurd z (by omega))
  | succ d ih =>
    intro k hk pa hq
    have hpk : pa (nI k).toNatClampNeg = nI (p k) := by rw [nI_clamp (by omega), hq k (by omega), if_neg (by omega)]
    have h1 := hp k (by omega)
    have h2 := hp b hb
    have ik : vp_in (nI k) 6 := vp_in_nI (by omega) (by omega)
    refine pk_le 6 k (fun z => absurd z (by omega)) (fun _ => ⟨ik, pk_eq (p k) (p b)
      (fun z => ⟨ik, nm_r (e' := upd pa k (nI (p a))) (by rw [nI_clamp (by omega)]) (nm_r (nI_1 k) (ih (k + 1) (by omega) _ ?_))⟩)
      (fun z => ⟨ik, ik, nm_r (e' := upd pa k (nI (p k))) (by rw [hpk, nI_clamp (by omega)]) (nm_r (nI_1 k) (ih (k + 1) (by omega) _ ?_))⟩) hpk rfl (by omega) (by omega)⟩)
    · intro v hv
      by_cases hvk : v = k
      · subst hvk
        rw [pk_us, if_pos (by omega)]
        unfold gp_mg
        rw [if_pos z]
      · rw [pk_un hvk, hq v hv]
        by_cases hl : v < k
        · rw [if_pos hl, if_pos (by omega)]
        · rw [if_neg hl, if_neg (by omega)]
    · intro v hv
      by_cases hvk : v = k
      · subst hvk
        rw [pk_us, if_pos (by omega)]
        unfold gp_mg
        rw [if_neg z]
      · rw [pk_un hvk, hq v hv]
        by_cases hl : v < k
        · rw [if_pos hl, if_pos (by omega)]
        · rw [if_neg hl, if_neg (by omega)]
theorem yw_j25 {A B : Nat → Nat} {post : Int32 → SY → Prop} {th he fo sp : Nat → Int32} {s : Nat} (hA : ∀ e, A e < 6) (hB : ∀ e, B e < 6) (hs : s < 1024)
    (h : ∀ q : Nat → Int32, (∀ v, v < 6 → q v = nI (gp_pt A B s.testBit 10 v)) → post (tb_B (gp_ok A B s.testBit 10)) (th, gp_n A, gp_n B, he, fo, sp, q)) :
    ∀ d k, k + d = 10 → ∀ pa : Nat → Int32, (∀ v, v < 6 → pa v = nI (gp_pt A B s.testBit k v)) → wY_join_25 post (nI s) (d + 1) (tb_B (gp_ok A B s.testBit k)) (nI k) th (gp_n A) (gp_n B) he fo sp pa := by
  intro d
  induction d with
  | zero =>
    intro k hk pa hq
    have hk : k = 10 := by omega
    subst hk
    exact pk_le 10 10 (fun _ => ⟨tb_nb _, h pa hq⟩) (fun z => absurd z (by omega))
  | succ d ih =>
    intro k hk pa hq
    have hl : k < 10 := by omega
    have ie : vp_in (nI k) 10 := vp_in_nI hl (by omega)
    have hAe := hA k
    have hBe := hB k
    have h1 := gp_pt_lt (B := B) hA s.testBit k _ hAe
    have h2 := gp_pt_lt (B := B) hA s.testBit k _ hBe
    have eA : gp_n A (nI k).toNatClampNeg = nI (A k) := gp_n_at hl
    have eB : gp_n B (nI k).toNatClampNeg = nI (B k) := gp_n_at hl
    have pA : pa (gp_n A (nI k).toNatClampNeg).toNatClampNeg = nI (gp_pt A B s.testBit k (A k)) := by rw [eA, nI_clamp (by omega), hq _ hAe]
    have pB : pa (gp_n B (nI k).toNatClampNeg).toNatClampNeg = nI (gp_pt A B s.testBit k (B k)) := by rw [eB, nI_clamp (by omega), hq _ hBe]
    refine pk_le 10 k (fun z => absurd z (by omega)) (fun _ => tb_br1 (tb_shr hs hl)
      (fun z => ⟨ie, by rw [eA]; exact vp_in_nI hAe (by omega), nm_r pA ⟨ie, by rw [eB]; exact vp_in_nI hBe (by omega), nm_r pB ?_⟩⟩)
      (fun z => ?_))
    · have go : ∀ b : Bool, gp_ok A B s.testBit (k + 1) = b → ∃ n86 : Nat, wY_join_86 post (wY_join_25 post (nI s) (d + 1)) (nI s) (tb_B b) (nI k) (nI (gp_pt A B s.testBit k (A k))) (nI (gp_pt A B s.testBit k (B k))) n86 0 th (gp_n A) (gp_n B) he fo sp pa := by
        intro b hb
        refine ⟨_, yw_j86 hBe (gp_pt_lt hA s.testBit k) ?_ 6 0 rfl pa (fun v hv => by rw [hq v hv, if_neg (by omega)])⟩
        intro q hq'
        have := ih (k + 1) (by omega) q (fun v hv => by rw [hq' v hv, gp_pt, if_pos z])
        rw [hb, ← nI_1 k] at this
        exact this
      refine tb_br (fun z2 => go false (by rw [gp_ok, z2]; rfl)) (fun z2 => pk_eq _ _ (fun z3 => go false ?_) (fun z3 => go true ?_) rfl rfl (by omega) (by omega))
      · rw [gp_ok, z, z2, decide_eq_true z3]; rfl
      · rw [gp_ok, z, z2, decide_eq_false z3]; rfl
    · have := ih (k + 1) (by omega) pa (fun v hv => by rw [hq v hv, gp_pt, if_neg (by simp [z])])
      rw [gp_ok, z] at this
      simp only [Bool.not_false, Bool.true_or, Bool.and_true] at this
      exact nm_r (nI_1 k) this
theorem yw_j4 {post : Int32 → SY → Prop} {x1 x2 : Int32} {th on tw he fo sp : Nat → Int32}
    (h : ∀ q : Nat → Int32, (∀ v, v < 6 → q v = nI v) → ∃ n25 : Nat, wY_join_25 post x1 n25 x2 0 th on tw he fo sp q) :
    ∀ d k, k + d = 6 → ∀ pa : Nat → Int32, (∀ v, v < k → pa v = nI v) → wY_join_4 post x1 x2 (d + 1) (nI k) th on tw he fo sp pa := by
  intro d
  induction d with
  | zero =>
    intro k hk pa hp
    exact pk_le 6 k (fun _ => h pa (fun v hv => hp v (by omega))) (fun z => absurd z (by omega))
  | succ d ih =>
    intro k hk pa hp
    refine pk_le 6 k (fun z => absurd z (by omega)) (fun _ => ⟨vp_in_nI (by omega) (by omega), nm_r (e' := upd pa k (nI k)) (by rw [nI_clamp (by omega)]) (nm_r (nI_1 k) (ih (k + 1) (by omega) _ ?_))⟩)
    intro v hv
    by_cases hvk : v = k
    · subst hvk; exact pk_us
    · rw [pk_un hvk]; exact hp v (by omega)
theorem yw_join {A B : Nat → Nat} {post : Int32 → SY → Prop} {th he fo sp pa : Nat → Int32} {s : Nat} (hA : ∀ e, A e < 6) (hB : ∀ e, B e < 6) (hs : s < 1024)
    (h : ∀ q : Nat → Int32, (∀ v, v < 6 → q v = nI (gp_pt A B s.testBit 10 v)) → post (tb_B (gp_ok A B s.testBit 10)) (th, gp_n A, gp_n B, he, fo, sp, q)) :
    wpY_join post (th, gp_n A, gp_n B, he, fo, sp, pa) (nI s) :=
  ⟨_, yw_j4 (fun q hq => ⟨_, yw_j25 hA hB hs h 10 0 rfl q hq⟩) 6 0 rfl pa (fun _ h => absurd h (by omega))⟩
noncomputable def gp_sv (A B : Nat → Nat) (P s : Nat) : Nat → Bool
  | 0 => gp_fo A B P s
  | j + 1 => gp_sv A B P s j && (s.testBit j || !(gp_fo A B P (s ||| 2 ^ j)))
theorem gp_sv_t {A B : Nat → Nat} {P s : Nat} : ∀ j, gp_sv A B P s j = true ↔ gp_fo A B P s = true ∧ ∀ e, e < j → s.testBit e = true ∨ gp_fo A B P (s ||| 2 ^ e) = false := by
  intro j
  induction j with
  | zero => exact ⟨fun h => ⟨h, fun e he => absurd he (by omega)⟩, fun h => h.1⟩
  | succ j ih =>
    rw [gp_sv, Bool.and_eq_true, ih, Bool.or_eq_true, Bool.not_eq_true']
    constructor
    · intro h
      refine ⟨h.1.1, fun e he => ?_⟩
      by_cases hej : e = j
      · rw [hej]; exact h.2
      · exact h.1.2 e (by omega)
    · intro h
      exact ⟨⟨h.1, fun e he => h.2 e (by omega)⟩, h.2 j (by omega)⟩
theorem gp_sv_bs {A B : Nat → Nat} {P s : Nat} : gp_sv A B P s 10 = gp_bs A B P s := by
  rw [Bool.eq_iff_iff, gp_sv_t, gp_bs_Y]
theorem yw_w70 {A B : Nat → Nat} {P k : Nat} {post : SY → Prop} {J : Int32 → (Nat → Int32) → (Nat → Int32) → (Nat → Int32) → (Nat → Int32) → (Nat → Int32) → (Nat → Int32) → (Nat → Int32) → Prop}
    {th on tw he fo pa : Nat → Int32} (hk : k < 1024) (hfo : ∀ s, s < 1024 → fo s = tb_B (gp_fo A B P s))
    (h : ∀ sp : Nat → Int32, (∀ s, s < k + 1 → sp s = tb_B (gp_bs A B P s)) → J (nI (k + 1)) th on tw he fo sp pa) :
    ∀ d j, j + d = 10 → ∀ sp : Nat → Int32, (∀ s, s < k → sp s = tb_B (gp_bs A B P s)) → sp k = tb_B (gp_sv A B P k j) → wY_work_70 post J (nI k) (d + 1) (nI j) th on tw he fo sp pa := by
  intro d
  induction d with
  | zero =>
    intro j hj sp hs hv
    have hj : j = 10 := by omega
    subst hj
    refine pk_le 10 10 (fun _ => nm_r (nI_1 k) (h sp ?_)) (fun z => absurd z (by omega))
    intro s hl
    by_cases hsk : s = k
    · rw [hsk, hv, gp_sv_bs]
    · exact hs s (by omega)
  | succ d ih =>
    intro j hj sp hs hv
    have hl : j < 10 := by omega
    have ik : vp_in (nI k) 1024 := vp_in_nI hk (by omega)
    have go : ∀ b : Bool, gp_sv A B P k (j + 1) = b → ∀ a : Nat → Int32, a = upd sp (nI k).toNatClampNeg (vp_nar .boolean (tb_B b)) → ∀ x : Int32, x = nI j + 1 → wY_work_70 post J (nI k) (d + 1) x th on tw he fo a pa := by
      intro b hb a ha x hx
      rw [hx, nI_1, ha, nI_clamp (by omega), tb_vb]
      refine ih (j + 1) (by omega) _ ?_ ?_
      · intro s hsl
        rw [pk_un (by omega)]
        exact hs s hsl
      · rw [pk_us, hb]
    have hsp : sp (nI k).toNatClampNeg = tb_B (gp_sv A B P k j) := by rw [nI_clamp (by omega)]; exact hv
    have hx : nI k ||| ((1 : Int32) <<< (nI j &&& 31)) = nI (k ||| 2 ^ j) := by rw [tb_shl j hl, tb_or]
    have hxl : k ||| 2 ^ j < 1024 := tb_or_lt hk (tb_pow hl)
    have hf : fo (nI k ||| ((1 : Int32) <<< (nI j &&& 31))).toNatClampNeg = tb_B (gp_fo A B P (k ||| 2 ^ j)) := by rw [hx, nI_clamp (by omega)]; exact hfo _ hxl
    refine pk_le 10 j (fun z => absurd z (by omega)) (fun _ => ⟨ik, tb_brE hsp (fun z => ⟨ik, go false ?_⟩) (fun z => tb_br1 (tb_shr hk hl) (fun z2 => ⟨ik, go true ?_⟩)
      (fun z2 => ⟨by rw [hx]; exact vp_in_nI hxl (by omega), tb_brE hf (fun z3 => ⟨ik, go true ?_⟩) (fun z3 => ⟨ik, go false ?_⟩)⟩))⟩)
    · rw [gp_sv, z]; rfl
    · rw [gp_sv, z, z2]; rfl
    · rw [gp_sv, z, z2, z3]; rfl
    · rw [gp_sv, z, z2, z3]; rfl
theorem yw_w49 {A B : Nat → Nat} {P : Nat} {post : SY → Prop} {th on tw he fo pa : Nat → Int32} (hfo : ∀ s, s < 1024 → fo s = tb_B (gp_fo A B P s))
    (h : ∀ sp : Nat → Int32, (∀ s, s < 1024 → sp s = tb_B (gp_bs A B P s)) → post (th, on, tw, he, fo, sp, pa)) :
    ∀ d k, k + d = 1024 → ∀ sp : Nat → Int32, (∀ s, s < k → sp s = tb_B (gp_bs A B P s)) → wY_work_49 post (d + 1) (nI k) th on tw he fo sp pa := by
  intro d
  induction d with
  | zero =>
    intro k hk sp hs
    exact pk_le 1024 k (fun _ => h sp (fun s hl => hs s (by omega))) (fun z => absurd z (by omega))
  | succ d ih =>
    intro k hk sp hs
    have hl : k < 1024 := by omega
    have ik : vp_in (nI k) 1024 := vp_in_nI hl (by omega)
    refine pk_le 1024 k (fun z => absurd z (by omega)) (fun _ => ⟨ik, ik, nm_r (e' := upd sp k (tb_B (gp_fo A B P k))) ?_ ⟨_, yw_w70 hl hfo (fun sp hs => ih (k + 1) (by omega) sp hs) 10 0 rfl _ ?_ pk_us⟩⟩)
    · rw [nI_clamp (by omega), hfo k hl, tb_vb]
    · intro s hsl
      rw [pk_un (by omega)]
      exact hs s hsl
theorem yw_w7 {A B : Nat → Nat} {P : Nat} {post : SY → Prop} {th he sp : Nat → Int32} (hA : ∀ e, A e < 6) (hB : ∀ e, B e < 6)
    (h : ∀ fo sp pa : Nat → Int32, (∀ s, s < 1024 → sp s = tb_B (gp_bs A B P s)) → post (th, gp_n A, gp_n B, he, fo, sp, pa)) :
    ∀ d k, k + d = 1024 → ∀ fo pa : Nat → Int32, (∀ s, s < k → fo s = tb_B (gp_fo A B P s)) → wY_work_7 post (nI P) (d + 1) (nI k) th (gp_n A) (gp_n B) he fo sp pa := by
  intro d
  induction d with
  | zero =>
    intro k hk fo pa hf
    exact pk_le 1024 k (fun _ => ⟨_, yw_w49 (fun s hl => hf s (by omega)) (fun sp hs => h fo sp pa hs) 1024 0 rfl sp (fun _ h => absurd h (by omega))⟩) (fun z => absurd z (by omega))
  | succ d ih =>
    intro k hk fo pa hf
    have hl : k < 1024 := by omega
    have ik : vp_in (nI k) 1024 := vp_in_nI hl (by omega)
    have go : ∀ b : Bool, gp_fo A B P k = b → ∀ q : Nat → Int32, ∀ a : Nat → Int32, a = upd fo (nI k).toNatClampNeg (vp_nar .boolean (tb_B b)) → ∀ x : Int32, x = nI k + 1 → wY_work_7 post (nI P) (d + 1) x th (gp_n A) (gp_n B) he a sp q := by
      intro b hb q a ha x hx
      rw [hx, nI_1, ha, nI_clamp (by omega), tb_vb]
      refine ih (k + 1) (by omega) _ q ?_
      intro s hsl
      by_cases hsk : s = k
      · subst hsk; rw [pk_us, hb]
      · rw [pk_un hsk]; exact hf s (by omega)
    refine pk_le 1024 k (fun z => absurd z (by omega)) (fun _ => br_c (fun z => yw_join hA hB hl (fun q hq => tb_br (fun z2 => ⟨ik, go false ?_ q⟩) (fun z2 => ⟨ik, go true ?_ q⟩))) (fun z => ⟨ik, go false ?_ pa⟩))
    · rw [gp_fo, z2, Bool.and_false]
    · rw [gp_fo, z2, gp_D_t.mpr ((tb_sub hl).mp z)]; rfl
    · rw [gp_fo, gp_D_f.mpr (fun y => z ((tb_sub hl).mpr y))]; rfl
theorem yw_work {A B : Nat → Nat} {P : Nat} {post : SY → Prop} {he fo sp pa : Nat → Int32} (hA : ∀ e, A e < 6) (hB : ∀ e, B e < 6) (hP : P < 1024)
    (h : ∀ fo sp pa : Nat → Int32, (∀ s, s < 1024 → sp s = tb_B (gp_bs A B P s)) → post (gp_th P, gp_n A, gp_n B, he, fo, sp, pa)) :
    wpY_work post (gp_th P, gp_n A, gp_n B, he, fo, sp, pa) :=
  yw_edges hP ⟨_, yw_w7 hA hB h 1024 0 rfl fo pa (fun _ h => absurd h (by omega))⟩
theorem yw_sum_l {C : Nat → Nat} {post : Int32 → Prop} {th on tw fo sp pa : Nat → Int32} {s : Nat} (hs : s < 1024) (h : post (nI (ws_sm C s.testBit 10))) :
    ∀ d k, k + d = 10 → wY_sum_4 post (nI s) th on tw (gp_n C) fo sp pa (d + 1) (nI (ws_sm C s.testBit k)) (nI k) := by
  intro d
  induction d with
  | zero =>
    intro k hk
    have hk : k = 10 := by omega
    subst hk
    exact pk_le 10 10 (fun _ => h) (fun z => absurd z (by omega))
  | succ d ih =>
    intro k hk
    refine pk_le 10 k (fun z => absurd z (by omega)) (fun _ => tb_br1 (tb_shr hs (by omega)) (fun z => ⟨vp_in_nI (by omega) (by omega), ?_⟩) (fun z => ?_))
    · have := ih (k + 1) (by omega)
      rw [ws_sm, if_pos z] at this
      exact nm_r (by rw [gp_n_at (by omega), nI_add]) (nm_r (nI_1 k) this)
    · have := ih (k + 1) (by omega)
      rw [ws_sm, z] at this
      exact nm_r (nI_add _ 0) (nm_r (nI_1 k) this)
theorem yw_sum {C : Nat → Nat} {post : Int32 → Prop} {th on tw fo sp pa : Nat → Int32} {s : Nat} (hs : s < 1024) (h : post (nI (ws_sm C s.testBit 10))) :
    wpY_sum post (th, on, tw, gp_n C, fo, sp, pa) (nI s) :=
  ⟨_, yw_sum_l hs h 10 0 rfl⟩
theorem yw_bf_l {post : Int32 → Prop} {th on tw he fo sp pa : Nat → Int32} {a b : Nat} (ha : a < 1024) (hb : b < 1024) :
    ∀ d k, k + d = 10 → post (tb_B (ws_lx a.testBit b.testBit d k)) → wY_before_34 post (nI a) (nI b) th on tw he fo sp pa (d + 1) (nI k) := by
  intro d
  induction d with
  | zero =>
    intro k hk h
    exact pk_le 10 k (fun _ => h) (fun z => absurd z (by omega))
  | succ d ih =>
    intro k hk h
    have hl : k < 10 := by omega
    rw [ws_lx] at h
    refine pk_le 10 k (fun z => absurd z (by omega)) (fun _ => br_c (fun z => ?_) (fun z => tb_br1 (tb_shr ha hl) (fun z2 => ?_) (fun z2 => ?_)))
    · rw [tb_shr ha hl, tb_shr hb hl, tb_Be] at z
      rw [if_pos z] at h
      exact nm_r (nI_1 k) (ih (k + 1) (by omega) h)
    · rw [tb_shr ha hl, tb_shr hb hl, tb_Be] at z
      rw [if_neg z, z2] at h
      exact h
    · rw [tb_shr ha hl, tb_shr hb hl, tb_Be] at z
      rw [if_neg z, z2] at h
      exact h
theorem yw_before {C : Nat → Nat} {post : Int32 → Prop} {th on tw fo sp pa : Nat → Int32} {a b : Nat} (hC : ∀ e, C e ≤ 50) (ha : a < 1024) (hb : b < 1024)
    (h : post (tb_B (ws_bf C a.testBit b.testBit))) : wpY_before post (th, on, tw, gp_n C, fo, sp, pa) (nI a) (nI b) := by
  have l1 : ws_sm C a.testBit 10 ≤ 10 * 50 := ws_le 10 (fun e _ => hC e)
  have l2 : ws_sm C b.testBit 10 ≤ 10 * 50 := ws_le 10 (fun e _ => hC e)
  unfold ws_bf at h
  refine yw_sum ha (yw_sum hb (pk_eq _ _ (fun z => ⟨_, yw_bf_l ha hb 10 0 rfl ?_⟩) (fun z => pk_le _ _ (fun z2 => ?_) (fun z2 => ?_) rfl rfl (by omega) (by omega)) rfl rfl (by omega) (by omega)))
  · rw [if_pos z] at h; exact h
  · rw [if_neg z, decide_eq_false (by omega)] at h; exact h
  · rw [if_neg z, decide_eq_true z2] at h; exact h
end
section
/-! ===== the walks over all sets, over the weights, and over free numbers ===== -/
def yo_I : Option Nat → Int32
  | none => -1
  | some k => nI k
theorem yo_ne {l : Nat} (hl : l < 2 ^ 31) : ¬ nI l = -1 := fun z => nI_pos hl (by rw [z]; decide)
theorem yo_eq {k : Nat} {nv : Option Nat} (hk : k < 2 ^ 31) (hv : ∀ b, nv = some b → b < 2 ^ 31) : nI k = yo_I nv ↔ nv = some k := by
  cases nv with
  | none => exact ⟨fun z => absurd z (yo_ne hk), fun z => absurd z (by simp)⟩
  | some b =>
    have : nI k = nI b ↔ k = b := nI_eq hk (hv b rfl)
    refine this.trans ⟨fun z => by rw [z], fun z => ?_⟩
    injection z with z
    exact z.symm
def yo_b (C : Nat → Nat) (f : Nat → Bool) (nv : Option Nat) : Nat → Option Nat
  | 0 => none
  | k + 1 => if f k = true ∧ nv ≠ some k then
      (match yo_b C f nv k with
        | none => some k
        | some b => if ws_bf C k.testBit b.testBit = true then some k else some b)
    else yo_b C f nv k
theorem yo_b_spec {C : Nat → Nat} {f : Nat → Bool} {nv : Option Nat} : ∀ k, (yo_b C f nv k = none → ∀ c, c < k → f c = true → nv = some c) ∧
    (∀ b, yo_b C f nv k = some b → b < k ∧ f b = true ∧ nv ≠ some b ∧ ∀ c, c < k → f c = true → nv ≠ some c → ws_key C b.testBit ≤ ws_key C c.testBit) := by
  intro k
  induction k with
  | zero => exact ⟨fun _ c hc => absurd hc (by omega), fun b hb => absurd hb (by simp [yo_b])⟩
  | succ k ih =>
    rw [yo_b]
    by_cases h : f k = true ∧ nv ≠ some k
    · rw [if_pos h]
      cases hb : yo_b C f nv k with
      | none =>
        refine ⟨fun z => absurd z (by simp), fun b hbb => ?_⟩
        injection hbb with hbb
        subst hbb
        refine ⟨by omega, h.1, h.2, fun c hc hf hn => ?_⟩
        by_cases hck : c = k
        · rw [hck]; exact Nat.le_refl _
        · exact absurd (ih.1 hb c (by omega) hf) hn
      | some b0 =>
        obtain ⟨i1, i2, i3, i4⟩ := ih.2 b0 hb
        dsimp only
        by_cases hbf : ws_bf C k.testBit b0.testBit = true
        · rw [if_pos hbf]
          refine ⟨fun z => absurd z (by simp), fun b hbb => ?_⟩
          injection hbb with hbb
          subst hbb
          rw [ws_bf_key] at hbf
          refine ⟨by omega, h.1, h.2, fun c hc hf hn => ?_⟩
          by_cases hck : c = k
          · rw [hck]; exact Nat.le_refl _
          · have := i4 c (by omega) hf hn
            omega
        · rw [if_neg hbf]
          refine ⟨fun z => absurd z (by simp), fun b hbb => ?_⟩
          injection hbb with hbb
          subst hbb
          rw [ws_bf_key] at hbf
          refine ⟨by omega, i2, i3, fun c hc hf hn => ?_⟩
          by_cases hck : c = k
          · rw [hck]; omega
          · exact i4 c (by omega) hf hn
    · rw [if_neg h]
      refine ⟨fun z c hc hf => ?_, fun b hb => ?_⟩
      · by_cases hck : c = k
        · subst hck
          refine Classical.byContradiction fun hn => h ⟨hf, hn⟩
        · exact ih.1 z c (by omega) hf
      · obtain ⟨i1, i2, i3, i4⟩ := ih.2 b hb
        refine ⟨by omega, i2, i3, fun c hc hf hn => ?_⟩
        by_cases hck : c = k
        · subst hck
          exact absurd ⟨hf, hn⟩ h
        · exact i4 c (by omega) hf hn
theorem yo_b_G {A B C : Nat → Nat} (hC : ∀ e, C e ≤ 50) (P : Nat) : yo_b C (gp_bs A B P) none 1024 = some (gp_G A B C P 10) := by
  have hG := gp_bas_G (A := A) (B := B) (C := C) (fun e _ => hC e) P
  have hl : gp_G A B C P 10 < 1024 := gp_G_lt
  cases h : yo_b C (gp_bs A B P) none 1024 with
  | none => exact absurd ((yo_b_spec 1024).1 h _ hl hG) (by simp)
  | some b =>
    obtain ⟨h1, h2, _, h4⟩ := (yo_b_spec 1024).2 b h
    have h5 := h4 _ hl hG (by simp)
    rcases gp_first (C := C) (fun e _ => hC e) h1 h2 with h6 | h6
    · rw [h6]
    · omega
theorem yw_best_l {C : Nat → Nat} {f : Nat → Bool} {nv : Option Nat} {post : Int32 → Prop} {th on tw fo sp pa : Nat → Int32} (hC : ∀ e, C e ≤ 50) (hv : ∀ b, nv = some b → b < 2 ^ 31)
    (hsp : ∀ s, s < 1024 → sp s = tb_B (f s)) (h : post (yo_I (yo_b C f nv 1024))) :
    ∀ d k, k + d = 1024 → wY_best_4 post (yo_I nv) th on tw (gp_n C) fo sp pa (d + 1) (yo_I (yo_b C f nv k)) (nI k) := by
  intro d
  induction d with
  | zero =>
    intro k hk
    have hk : k = 1024 := by omega
    subst hk
    exact pk_le 1024 1024 (fun _ => h) (fun z => absurd z (by omega))
  | succ d ih =>
    intro k hk
    have hl : k < 1024 := by omega
    have hs : sp (nI k).toNatClampNeg = tb_B (f k) := by rw [nI_clamp (by omega)]; exact hsp k hl
    have hi := ih (k + 1) (by omega)
    rw [yo_b] at hi
    refine pk_le 1024 k (fun z => absurd z (by omega)) (fun _ => ⟨vp_in_nI hl (by omega), tb_brE hs (fun z => ?_) (fun z => br_c (fun z2 => ?_) (fun z2 => ?_))⟩)
    · rw [if_neg (by simp [z])] at hi
      exact nm_r (nI_1 k) hi
    · rw [yo_eq (by omega) hv] at z2
      rw [if_neg (by simp [z2])] at hi
      exact nm_r (nI_1 k) hi
    · rw [yo_eq (by omega) hv] at z2
      rw [if_pos ⟨z, z2⟩] at hi
      cases hb : yo_b C f nv k with
      | none =>
        rw [hb] at hi
        exact br_t (by decide) (nm_r (nI_1 k) hi)
      | some b =>
        have hbl := ((yo_b_spec k).2 b hb).1
        rw [hb] at hi
        refine br_f (nI_pos (by omega)) (yw_before hC hl (by omega) (tb_br (fun z3 => ?_) (fun z3 => ?_)))
        · simp only [z3] at hi
          exact nm_r (nI_1 k) hi
        · simp only [z3] at hi
          exact nm_r (nI_1 k) hi
theorem yw_best {C : Nat → Nat} {f : Nat → Bool} {nv : Option Nat} {post : Int32 → Prop} {th on tw fo sp pa : Nat → Int32} (hC : ∀ e, C e ≤ 50) (hv : ∀ b, nv = some b → b < 2 ^ 31)
    (hsp : ∀ s, s < 1024 → sp s = tb_B (f s)) (h : post (yo_I (yo_b C f nv 1024))) : wpY_best post (th, on, tw, gp_n C, fo, sp, pa) (yo_I nv) :=
  ⟨_, yw_best_l hC hv hsp h 1024 0 rfl⟩
theorem yw_best0 {A B C : Nat → Nat} {P : Nat} {post : Int32 → Prop} {th on tw fo sp pa : Nat → Int32} (hC : ∀ e, C e ≤ 50)
    (hsp : ∀ s, s < 1024 → sp s = tb_B (gp_bs A B P s)) (h : post (nI (gp_G A B C P 10))) : wpY_best post (th, on, tw, gp_n C, fo, sp, pa) (-1) :=
  yw_best (nv := none) hC (fun b hb => absurd hb (by simp)) hsp (by rw [yo_b_G hC]; exact h)
theorem yw_chosen {A B C : Nat → Nat} {P : Nat} {post : Int32 → SY → Prop} {fo sp pa : Nat → Int32} (hA : ∀ e, A e < 6) (hB : ∀ e, B e < 6) (hC : ∀ e, C e ≤ 50) (hP : P < 1024)
    (h : ∀ fo sp pa : Nat → Int32, (∀ s, s < 1024 → sp s = tb_B (gp_bs A B P s)) → post (nI (gp_G A B C P 10)) (gp_th P, gp_n A, gp_n B, gp_n C, fo, sp, pa)) :
    wpY_chosen post (gp_th P, gp_n A, gp_n B, gp_n C, fo, sp, pa) :=
  yw_work hA hB hP (fun fo sp pa hs => yw_best0 hC hs (h fo sp pa hs))
theorem yw_total {A B C : Nat → Nat} {P : Nat} {post : Int32 → SY → Prop} {fo sp pa : Nat → Int32} (hA : ∀ e, A e < 6) (hB : ∀ e, B e < 6) (hC : ∀ e, C e ≤ 50) (hP : P < 1024)
    (h : ∀ fo sp pa : Nat → Int32, (∀ s, s < 1024 → sp s = tb_B (gp_bs A B P s)) → post (nI (ws_sm C (gp_G A B C P 10).testBit 10)) (gp_th P, gp_n A, gp_n B, gp_n C, fo, sp, pa)) :
    wpY_total post (gp_th P, gp_n A, gp_n B, gp_n C, fo, sp, pa) := by
  unfold wpY_total
  dsimp only
  refine yw_chosen hA hB hC hP (fun fo sp pa hs => ?_)
  exact yw_sum gp_G_lt (h fo sp pa hs)
def yo_n (f : Nat → Bool) (e : Nat) : Nat → Bool
  | 0 => true
  | k + 1 => yo_n f e k && (!(f k) || k.testBit e)
theorem yo_n_t {f : Nat → Bool} {e : Nat} : ∀ k, yo_n f e k = true ↔ ∀ s, s < k → f s = true → s.testBit e = true := by
  intro k
  induction k with
  | zero => exact ⟨fun _ s hs => absurd hs (by omega), fun _ => rfl⟩
  | succ k ih =>
    rw [yo_n, Bool.and_eq_true, ih, Bool.or_eq_true, Bool.not_eq_true']
    constructor
    · intro h s hs hf
      by_cases hsk : s = k
      · subst hsk
        rcases h.2 with z | z
        · rw [z] at hf; exact absurd hf (by decide)
        · exact z
      · exact h.1 s (by omega) hf
    · intro h
      refine ⟨fun s hs => h s (by omega), ?_⟩
      cases hf : f k
      · exact Or.inl rfl
      · exact Or.inr (h k (by omega) hf)
theorem yw_need_l {f : Nat → Bool} {e : Nat} {post : Int32 → Prop} {th on tw he fo sp pa : Nat → Int32} (hl : e < 10)
    (hsp : ∀ s, s < 1024 → sp s = tb_B (f s)) (h : post (tb_B (yo_n f e 1024))) :
    ∀ d k, k + d = 1024 → wY_needed_4 post (nI e) th on tw he fo sp pa (d + 1) (tb_B (yo_n f e k)) (nI k) := by
  intro d
  induction d with
  | zero =>
    intro k hk
    have hk : k = 1024 := by omega
    subst hk
    exact pk_le 1024 1024 (fun _ => ⟨tb_nb _, h⟩) (fun z => absurd z (by omega))
  | succ d ih =>
    intro k hk
    have hkl : k < 1024 := by omega
    have hs : sp (nI k).toNatClampNeg = tb_B (f k) := by rw [nI_clamp (by omega)]; exact hsp k hkl
    have go : ∀ b : Bool, yo_n f e (k + 1) = b → ∀ x : Int32, x = nI k + 1 → wY_needed_4 post (nI e) th on tw he fo sp pa (d + 1) (tb_B b) x := by
      intro b hb x hx
      have hi := ih (k + 1) (by omega)
      rw [hb] at hi
      rw [hx, nI_1]
      exact hi
    refine pk_le 1024 k (fun z => absurd z (by omega)) (fun _ => tb_br (fun z => go false ?_) (fun z => ⟨vp_in_nI hkl (by omega), tb_brE hs (fun z2 => go true ?_) (fun z2 => tb_br1 (tb_shr hkl hl) (fun z3 => go true ?_) (fun z3 => go false ?_))⟩))
    · rw [yo_n, z]; rfl
    · rw [yo_n, z, z2]; rfl
    · rw [yo_n, z, z2, z3]; rfl
    · rw [yo_n, z, z2, z3]; rfl
theorem yw_need {f : Nat → Bool} {e : Nat} {post : Int32 → Prop} {th on tw he fo sp pa : Nat → Int32} (hl : e < 10)
    (hsp : ∀ s, s < 1024 → sp s = tb_B (f s)) (h : post (tb_B (yo_n f e 1024))) : wpY_needed post (th, on, tw, he, fo, sp, pa) (nI e) :=
  ⟨_, yw_need_l hl hsp h 1024 0 rfl⟩
/-! counting, joining, meeting -/
def ct_n (f : Nat → Bool) : Nat → Nat
  | 0 => 0
  | k + 1 => ct_n f k + (if f k = true then 1 else 0)
def ct_o (f : Nat → Bool) : Nat → Nat
  | 0 => 0
  | k + 1 => if f k = true then ct_o f k ||| k else ct_o f k
def ct_a (f : Nat → Bool) (b : Nat) : Nat → Nat
  | 0 => b
  | k + 1 => if f k = true then ct_a f b k &&& k else ct_a f b k
noncomputable def ct_f (A B C : Nat → Nat) (P L s : Nat) : Bool := gp_bs A B P s && decide (ws_sm C s.testBit 10 = L)
theorem ct_a_b {f : Nat → Bool} {b i : Nat} : ∀ k, (ct_a f b k).testBit i = true ↔ b.testBit i = true ∧ ∀ s, s < k → f s = true → s.testBit i = true := by
  intro k
  induction k with
  | zero => exact ⟨fun h => ⟨h, fun s hs => absurd hs (by omega)⟩, fun h => h.1⟩
  | succ k ih =>
    rw [ct_a]
    by_cases h : f k = true
    · rw [if_pos h, Nat.testBit_and, Bool.and_eq_true, ih]
      constructor
      · intro z
        refine ⟨z.1.1, fun s hs hf => ?_⟩
        by_cases hsk : s = k
        · rw [hsk]; exact z.2
        · exact z.1.2 s (by omega) hf
      · intro z
        exact ⟨⟨z.1, fun s hs hf => z.2 s (by omega) hf⟩, z.2 k (by omega) h⟩
    · rw [if_neg h, ih]
      constructor
      · intro z
        refine ⟨z.1, fun s hs hf => ?_⟩
        by_cases hsk : s = k
        · rw [hsk] at hf; exact absurd hf h
        · exact z.2 s (by omega) hf
      · intro z
        exact ⟨z.1, fun s hs hf => z.2 s (by omega) hf⟩
theorem ct_cert {A B C : Nat → Nat} (hC : ∀ e, C e ≤ 50) (P : Nat) :
    ct_a (ct_f A B C P (ws_sm C (gp_G A B C P 10).testBit 10)) P 1024 = ct_a (ct_f A B C P (ws_sm C (gp_G A B C P 10).testBit 10)) (gp_G A B C P 10) 1024 := by
  have hG := gp_bas_G (A := A) (B := B) (C := C) (fun e _ => hC e) P
  have hf : ct_f A B C P (ws_sm C (gp_G A B C P 10).testBit 10) (gp_G A B C P 10) = true := by
    unfold ct_f
    rw [hG, decide_eq_true rfl]; rfl
  apply Nat.eq_of_testBit_eq
  intro i
  rw [Bool.eq_iff_iff, ct_a_b, ct_a_b]
  constructor
  · intro h
    exact ⟨h.2 _ gp_G_lt hf, h.2⟩
  · intro h
    refine ⟨?_, h.2⟩
    rcases Nat.lt_or_ge i 10 with hi | hi
    · exact (gp_bs_t.mp hG).1 i hi h.1
    · have := h.1
      rw [tb_hi gp_G_lt hi] at this
      exact absurd this (by decide)
end
section
/-! ===== the walks over all sets ===== -/
section
variable {A B C : Nat → Nat} {P L : Nat}
theorem xw_forests_l {post : Int32 → SX → Prop} (hA : ∀ e, A e < 6) (hB : ∀ e, B e < 6) (hC : ∀ e, C e ≤ 50) (hL : L ≤ 500)
    (h : ∀ q : Nat → Int32, post (nI (ct_n (ct_f A B C P L) 1024)) (nI P, gp_n A, gp_n B, gp_n C, q)) :
    ∀ d k, k + d = 1024 → ∀ pa : Nat → Int32, wX_forests_26 post (nI (ws_card (gp_G A B C P 10).testBit)) (nI L) (d + 1) (nI (ct_n (ct_f A B C P L) k)) (nI k) (nI P) (gp_n A) (gp_n B) (gp_n C) pa := by
  intro d
  induction d with
  | zero =>
    intro k hk pa
    have hk : k = 1024 := by omega
    subst hk
    exact pk_le 1024 1024 (fun _ => h pa) (fun z => absurd z (by omega))
  | succ d ih =>
    intro k hk pa
    refine pk_le 1024 k (fun z => absurd z (by omega)) (fun _ => xw_cheap hA hB hC (by omega) hL (fun q => tb_br (fun z => ?_) (fun z => ?_)))
    · have := ih (k + 1) (by omega) q
      rw [ct_n, show ct_f A B C P L k = false from z] at this
      exact nm_r (nI_1 k) this
    · have := ih (k + 1) (by omega) q
      rw [ct_n, if_pos (show ct_f A B C P L k = true from z)] at this
      exact nm_r (nI_1 _) (nm_r (nI_1 k) this)
theorem xw_possible_l {post : Int32 → SX → Prop} (hA : ∀ e, A e < 6) (hB : ∀ e, B e < 6) (hC : ∀ e, C e ≤ 50) (hL : L ≤ 500)
    (h : ∀ q : Nat → Int32, post (nI (ct_o (ct_f A B C P L) 1024)) (nI P, gp_n A, gp_n B, gp_n C, q)) :
    ∀ d k, k + d = 1024 → ∀ pa : Nat → Int32, wX_possible_26 post (nI (ws_card (gp_G A B C P 10).testBit)) (nI L) (d + 1) (nI (ct_o (ct_f A B C P L) k)) (nI k) (nI P) (gp_n A) (gp_n B) (gp_n C) pa := by
  intro d
  induction d with
  | zero =>
    intro k hk pa
    have hk : k = 1024 := by omega
    subst hk
    exact pk_le 1024 1024 (fun _ => h pa) (fun z => absurd z (by omega))
  | succ d ih =>
    intro k hk pa
    refine pk_le 1024 k (fun z => absurd z (by omega)) (fun _ => xw_cheap hA hB hC (by omega) hL (fun q => tb_br (fun z => ?_) (fun z => ?_)))
    · have := ih (k + 1) (by omega) q
      rw [ct_o, show ct_f A B C P L k = false from z] at this
      exact nm_r (nI_1 k) this
    · have := ih (k + 1) (by omega) q
      rw [ct_o, if_pos (show ct_f A B C P L k = true from z)] at this
      exact nm_r (tb_or _ _) (nm_r (nI_1 k) this)
theorem xw_certain_l {post : Int32 → SX → Prop} {b : Nat} (hA : ∀ e, A e < 6) (hB : ∀ e, B e < 6) (hC : ∀ e, C e ≤ 50) (hL : L ≤ 500)
    (h : ∀ q : Nat → Int32, post (nI (ct_a (ct_f A B C P L) b 1024)) (nI P, gp_n A, gp_n B, gp_n C, q)) :
    ∀ d k, k + d = 1024 → ∀ pa : Nat → Int32, wX_certain_26 post (nI (ws_card (gp_G A B C P 10).testBit)) (nI L) (d + 1) (nI (ct_a (ct_f A B C P L) b k)) (nI k) (nI P) (gp_n A) (gp_n B) (gp_n C) pa := by
  intro d
  induction d with
  | zero =>
    intro k hk pa
    have hk : k = 1024 := by omega
    subst hk
    exact pk_le 1024 1024 (fun _ => h pa) (fun z => absurd z (by omega))
  | succ d ih =>
    intro k hk pa
    refine pk_le 1024 k (fun z => absurd z (by omega)) (fun _ => xw_cheap hA hB hC (by omega) hL (fun q => tb_br (fun z => ?_) (fun z => ?_)))
    · have := ih (k + 1) (by omega) q
      rw [ct_a, show ct_f A B C P L k = false from z] at this
      exact nm_r (nI_1 k) this
    · have := ih (k + 1) (by omega) q
      rw [ct_a, if_pos (show ct_f A B C P L k = true from z)] at this
      exact nm_r (nx_and _ _) (nm_r (nI_1 k) this)
theorem xw_all_l {post : Int32 → SX → Prop} (hA : ∀ e, A e < 6) (hB : ∀ e, B e < 6) (hC : ∀ e, C e ≤ 50)
    (h : ∀ q : Nat → Int32, post (nI (ct_n (gp_bs A B P) 1024)) (nI P, gp_n A, gp_n B, gp_n C, q)) :
    ∀ d k, k + d = 1024 → ∀ pa : Nat → Int32, wX_allForests_19 post (nI (ws_card (gp_G A B C P 10).testBit)) (d + 1) (nI (ct_n (gp_bs A B P) k)) (nI k) (nI P) (gp_n A) (gp_n B) (gp_n C) pa := by
  intro d
  induction d with
  | zero =>
    intro k hk pa
    have hk : k = 1024 := by omega
    subst hk
    exact pk_le 1024 1024 (fun _ => h pa) (fun z => absurd z (by omega))
  | succ d ih =>
    intro k hk pa
    refine pk_le 1024 k (fun z => absurd z (by omega)) (fun _ => xw_span hA hB hC (by omega) (fun q => tb_br (fun z => ?_) (fun z => ?_)))
    · have := ih (k + 1) (by omega) q
      rw [ct_n, z] at this
      exact nm_r (nI_1 k) this
    · have := ih (k + 1) (by omega) q
      rw [ct_n, if_pos z] at this
      exact nm_r (nI_1 _) (nm_r (nI_1 k) this)
def ws_w (C : Nat → Nat) (s : Nat) : Nat := ws_sm C s.testBit 10
theorem ws_bf_le {a b : Nat} (h : ws_bf C a.testBit b.testBit = true) : ws_w C a ≤ ws_w C b := by
  unfold ws_bf at h
  unfold ws_w
  by_cases z : ws_sm C a.testBit 10 = ws_sm C b.testBit 10
  · omega
  · rw [if_neg z, decide_eq_true_eq] at h; omega
theorem ws_bf_ge {a b : Nat} (h : ¬ ws_bf C a.testBit b.testBit = true) : ws_w C b ≤ ws_w C a := by
  unfold ws_bf at h
  unfold ws_w
  by_cases z : ws_sm C a.testBit 10 = ws_sm C b.testBit 10
  · omega
  · rw [if_neg z, decide_eq_true_eq] at h; omega
theorem xw_second_l {post : Int32 → SX → Prop} (hA : ∀ e, A e < 6) (hB : ∀ e, B e < 6) (hC : ∀ e, C e ≤ 50)
    (h : ∀ q : Nat → Int32, post (yo_I ((yo_b C (gp_bs A B P) (some (gp_G A B C P 10)) 1024).map (ws_w C))) (nI P, gp_n A, gp_n B, gp_n C, q)) :
    ∀ d k, k + d = 1024 → ∀ pa : Nat → Int32, wX_second_19 post (nI (gp_G A B C P 10)) (nI (ws_card (gp_G A B C P 10).testBit)) (d + 1)
      (yo_I ((yo_b C (gp_bs A B P) (some (gp_G A B C P 10)) k).map (ws_w C))) (nI k) (nI P) (gp_n A) (gp_n B) (gp_n C) pa := by
  have hG : gp_G A B C P 10 < 1024 := gp_G_lt
  intro d
  induction d with
  | zero =>
    intro k hk pa
    have hk : k = 1024 := by omega
    subst hk
    exact pk_le 1024 1024 (fun _ => h pa) (fun z => absurd z (by omega))
  | succ d ih =>
    intro k hk pa
    have hl : k < 1024 := by omega
    refine pk_le 1024 k (fun z => absurd z (by omega)) (fun _ => pk_eq k (gp_G A B C P 10) (fun z => ?_) (fun z => xw_span hA hB hC hl (fun q => tb_br (fun z2 => ?_) (fun z2 => xw_weight hl ?_))))
    · have := ih (k + 1) (by omega) pa
      rw [yo_b, if_neg (by simp [z])] at this
      exact nm_r (nI_1 k) this
    · have := ih (k + 1) (by omega) q
      rw [yo_b, if_neg (by simp [z2])] at this
      exact nm_r (nI_1 k) this
    · have hi := ih (k + 1) (by omega) q
      rw [yo_b, if_pos ⟨z2, fun y => z (by injection y with y; exact y.symm)⟩] at hi
      have l1 : ws_sm C k.testBit 10 ≤ 10 * 50 := ws_le 10 (fun e _ => hC e)
      cases hb : yo_b C (gp_bs A B P) (some (gp_G A B C P 10)) k with
      | none =>
        rw [hb] at hi
        exact br_t rfl (nm_r (nI_1 k) hi)
      | some b =>
        have l2 : ws_sm C b.testBit 10 ≤ 10 * 50 := ws_le 10 (fun e _ => hC e)
        rw [hb] at hi
        dsimp only at hi
        refine br_f (yo_ne (l := ws_w C b) (by unfold ws_w; omega)) (pk_le (ws_w C b) (ws_w C k) (fun z3 => nm_r (nI_1 k) ?_) (fun z3 => nm_r (nI_1 k) ?_) rfl rfl (by unfold ws_w; omega) (by unfold ws_w; omega))
        · by_cases hbf : ws_bf C k.testBit b.testBit = true
          · have := ws_bf_le hbf
            rw [if_pos hbf] at hi
            have e : ws_w C k = ws_w C b := by omega
            simp only [Option.map_some, e] at hi
            exact hi
          · rw [if_neg hbf] at hi
            exact hi
        · by_cases hbf : ws_bf C k.testBit b.testBit = true
          · rw [if_pos hbf] at hi
            exact hi
          · have := ws_bf_ge hbf
            omega
/-! the reference's -/
variable {th on tw fo sp pa : Nat → Int32}
theorem yw_forests_l {post : Int32 → SY → Prop} (hC : ∀ e, C e ≤ 50) (hL : L ≤ 500) (hsp : ∀ s, s < 1024 → sp s = tb_B (gp_bs A B P s))
    (h : post (nI (ct_n (ct_f A B C P L) 1024)) (th, on, tw, gp_n C, fo, sp, pa)) :
    ∀ d k, k + d = 1024 → wY_forests_9 post (nI L) th on tw (gp_n C) fo sp pa (d + 1) (nI (ct_n (ct_f A B C P L) k)) (nI k) := by
  intro d
  induction d with
  | zero =>
    intro k hk
    have hk : k = 1024 := by omega
    subst hk
    exact pk_le 1024 1024 (fun _ => h) (fun z => absurd z (by omega))
  | succ d ih =>
    intro k hk
    have hl : k < 1024 := by omega
    have hs : sp (nI k).toNatClampNeg = tb_B (gp_bs A B P k) := by rw [nI_clamp (by omega)]; exact hsp k hl
    have l1 : ws_sm C k.testBit 10 ≤ 10 * 50 := ws_le 10 (fun e _ => hC e)
    have hi := ih (k + 1) (by omega)
    rw [ct_n] at hi
    refine pk_le 1024 k (fun z => absurd z (by omega)) (fun _ => ⟨vp_in_nI hl (by omega), tb_brE hs (fun z => ?_) (fun z => yw_sum hl (pk_eq _ L (fun z2 => ?_) (fun z2 => ?_) rfl rfl (by omega) (by omega)))⟩)
    · rw [ct_f, z] at hi
      exact nm_r (nI_add _ 0) (nm_r (nI_1 k) hi)
    · rw [ct_f, z, decide_eq_true z2] at hi
      exact nm_r (nI_1 _) (nm_r (nI_1 k) hi)
    · rw [ct_f, z, decide_eq_false z2] at hi
      exact nm_r (nI_add _ 0) (nm_r (nI_1 k) hi)
theorem yw_possible_l {post : Int32 → SY → Prop} (hC : ∀ e, C e ≤ 50) (hL : L ≤ 500) (hsp : ∀ s, s < 1024 → sp s = tb_B (gp_bs A B P s))
    (h : post (nI (ct_o (ct_f A B C P L) 1024)) (th, on, tw, gp_n C, fo, sp, pa)) :
    ∀ d k, k + d = 1024 → wY_possible_9 post (nI L) th on tw (gp_n C) fo sp pa (d + 1) (nI (ct_o (ct_f A B C P L) k)) (nI k) := by
  intro d
  induction d with
  | zero =>
    intro k hk
    have hk : k = 1024 := by omega
    subst hk
    exact pk_le 1024 1024 (fun _ => h) (fun z => absurd z (by omega))
  | succ d ih =>
    intro k hk
    have hl : k < 1024 := by omega
    have hs : sp (nI k).toNatClampNeg = tb_B (gp_bs A B P k) := by rw [nI_clamp (by omega)]; exact hsp k hl
    have l1 : ws_sm C k.testBit 10 ≤ 10 * 50 := ws_le 10 (fun e _ => hC e)
    have hi := ih (k + 1) (by omega)
    rw [ct_o] at hi
    refine pk_le 1024 k (fun z => absurd z (by omega)) (fun _ => ⟨vp_in_nI hl (by omega), tb_brE hs (fun z => ?_) (fun z => yw_sum hl (pk_eq _ L (fun z2 => ?_) (fun z2 => ?_) rfl rfl (by omega) (by omega)))⟩)
    · rw [ct_f, z] at hi
      exact nm_r (nI_1 k) hi
    · rw [ct_f, z, decide_eq_true z2] at hi
      exact nm_r (tb_or _ _) (nm_r (nI_1 k) hi)
    · rw [ct_f, z, decide_eq_false z2] at hi
      exact nm_r (nI_1 k) hi
theorem yw_certain_l {post : Int32 → SY → Prop} {b : Nat} (hC : ∀ e, C e ≤ 50) (hL : L ≤ 500) (hsp : ∀ s, s < 1024 → sp s = tb_B (gp_bs A B P s))
    (h : post (nI (ct_a (ct_f A B C P L) b 1024)) (th, on, tw, gp_n C, fo, sp, pa)) :
    ∀ d k, k + d = 1024 → wY_certain_12 post (nI L) th on tw (gp_n C) fo sp pa (d + 1) (nI (ct_a (ct_f A B C P L) b k)) (nI k) := by
  intro d
  induction d with
  | zero =>
    intro k hk
    have hk : k = 1024 := by omega
    subst hk
    exact pk_le 1024 1024 (fun _ => h) (fun z => absurd z (by omega))
  | succ d ih =>
    intro k hk
    have hl : k < 1024 := by omega
    have hs : sp (nI k).toNatClampNeg = tb_B (gp_bs A B P k) := by rw [nI_clamp (by omega)]; exact hsp k hl
    have l1 : ws_sm C k.testBit 10 ≤ 10 * 50 := ws_le 10 (fun e _ => hC e)
    have hi := ih (k + 1) (by omega)
    rw [ct_a] at hi
    refine pk_le 1024 k (fun z => absurd z (by omega)) (fun _ => ⟨vp_in_nI hl (by omega), tb_brE hs (fun z => ?_) (fun z => yw_sum hl (pk_eq _ L (fun z2 => ?_) (fun z2 => ?_) rfl rfl (by omega) (by omega)))⟩)
    · rw [ct_f, z] at hi
      exact nm_r (nI_1 k) hi
    · rw [ct_f, z, decide_eq_true z2] at hi
      exact nm_r (nx_and _ _) (nm_r (nI_1 k) hi)
    · rw [ct_f, z, decide_eq_false z2] at hi
      exact nm_r (nI_1 k) hi
theorem yw_all_l {post : Int32 → SY → Prop} {he : Nat → Int32} (hsp : ∀ s, s < 1024 → sp s = tb_B (gp_bs A B P s))
    (h : post (nI (ct_n (gp_bs A B P) 1024)) (th, on, tw, he, fo, sp, pa)) :
    ∀ d k, k + d = 1024 → wY_allForests_8 post th on tw he fo sp pa (d + 1) (nI (ct_n (gp_bs A B P) k)) (nI k) := by
  intro d
  induction d with
  | zero =>
    intro k hk
    have hk : k = 1024 := by omega
    subst hk
    exact pk_le 1024 1024 (fun _ => h) (fun z => absurd z (by omega))
  | succ d ih =>
    intro k hk
    have hl : k < 1024 := by omega
    have hs : sp (nI k).toNatClampNeg = tb_B (gp_bs A B P k) := by rw [nI_clamp (by omega)]; exact hsp k hl
    have hi := ih (k + 1) (by omega)
    rw [ct_n] at hi
    refine pk_le 1024 k (fun z => absurd z (by omega)) (fun _ => ⟨vp_in_nI hl (by omega), tb_brE hs (fun z => ?_) (fun z => ?_)⟩)
    · rw [z] at hi
      exact nm_r (nI_add _ 0) (nm_r (nI_1 k) hi)
    · rw [z] at hi
      exact nm_r (nI_1 _) (nm_r (nI_1 k) hi)
end
end
section
/-! ===== limit, narrowest, add ===== -/
def yo_u (A : Nat → Nat) (e a : Nat) : Nat → Nat := fun x => if x = e then a else A x
theorem yo_u_n {A : Nat → Nat} {e a : Nat} (he : e < 10) : upd (gp_n A) (nI e).toNatClampNeg (nI a) = gp_n (yo_u A e a) := by
  funext x
  rw [nI_clamp (by omega)]
  unfold upd gp_n yo_u
  by_cases h : x = e
  · rw [if_pos h, if_pos h]
  · rw [if_neg h, if_neg h]
theorem yo_u_back {C D : Nat → Nat} {e : Nat} (h : ∀ x, x ≠ e → D x = C x) : yo_u D e (C e) = C := by
  funext x
  unfold yo_u
  by_cases hx : x = e
  · rw [if_pos hx, hx]
  · rw [if_neg hx, h x hx]
theorem yo_u_le {C : Nat → Nat} {e w m : Nat} (hC : ∀ e, C e ≤ m) (hw : w ≤ m) : ∀ x, yo_u C e w x ≤ m := by
  intro x
  unfold yo_u
  by_cases hx : x = e
  · rw [if_pos hx]; exact hw
  · rw [if_neg hx]; exact hC x
theorem yo_u_lt {C : Nat → Nat} {e w m : Nat} (hC : ∀ e, C e < m) (hw : w < m) : ∀ x, yo_u C e w x < m := by
  intro x
  unfold yo_u
  by_cases hx : x = e
  · rw [if_pos hx]; exact hw
  · rw [if_neg hx]; exact hC x
def yo_l (st : Nat → Bool) : Nat → Option Nat
  | 0 => none
  | m + 1 => if st m = true then some m else yo_l st m
def yo_m : Nat → Int32
  | 0 => -1
  | m + 1 => nI m
theorem yo_m_1 : ∀ m, nI m + (-1) = yo_m m
  | 0 => rfl
  | m + 1 => pk_m1 m
section
variable {A B C : Nat → Nat} {P e : Nat}
theorem xw_limit_l {post : Int32 → SX → Prop} (hA : ∀ e, A e < 6) (hB : ∀ e, B e < 6) (hC : ∀ e, C e ≤ 50) (hP : P < 1024) (he : e < 10) :
    ∀ m, m ≤ 52 → (∀ q : Nat → Int32, post (yo_I (yo_l (gp_st A B C P e) m)) (nI P, gp_n A, gp_n B, gp_n C, q)) →
      ∀ pa : Nat → Int32, wX_limit_16 post (nI e) (m + 1) (yo_m m) (nI P) (gp_n A) (gp_n B) (gp_n C) pa := by
  intro m
  induction m with
  | zero =>
    intro _ h pa
    exact br_t (show (-1 : Int32) < 0 by decide) (h pa)
  | succ m ih =>
    intro hm h pa
    rw [yo_l] at h
    refine br_f (nI_pos (n := m) (by omega)) (xw_stands hA hB hC hP he (w := m) (by omega) rfl (fun q => tb_br (fun z => ?_) (fun z => ?_)))
    · rw [if_neg (by simp [z])] at h
      exact nm_r (yo_m_1 m) (ih (by omega) h q)
    · rw [if_pos z] at h
      exact h q
theorem gp_st_u {w : Nat} : gp_st A B (yo_u C e w) P e w = gp_st A B C P e w := by
  have : gp_S (yo_u C e w) P e w = gp_S C P e w := by
    funext f
    unfold gp_S gp_bf yo_u
    by_cases hf : f = e
    · simp [hf]
    · simp [hf]
  unfold gp_st
  rw [this]
theorem yw_limit_l {post : Int32 → SY → Prop} {th on tw fo sp pa : Nat → Int32} (hC : ∀ e, C e ≤ 50) (he : e < 10) (hPe : P.testBit e = true)
    (hsp : ∀ s, s < 1024 → sp s = tb_B (gp_bs A B P s)) :
    ∀ m, m ≤ 51 → post (yo_I (yo_l (gp_st A B C P e) m)) (th, on, tw, gp_n C, fo, sp, pa) →
      ∀ D : Nat → Nat, (∀ x, x ≠ e → D x = C x) → wY_limit_38 post (nI e) (nI (C e)) (m + 2) (-1) (yo_m m) th on tw (gp_n D) fo sp pa := by
  have ie : vp_in (nI e) 10 := vp_in_nI he (by omega)
  have back : ∀ D : Nat → Nat, (∀ x, x ≠ e → D x = C x) → upd (gp_n D) (nI e).toNatClampNeg (nI (C e)) = gp_n C := by
    intro D hD
    rw [yo_u_n he, yo_u_back hD]
  intro m
  induction m with
  | zero =>
    intro _ h D hD
    exact br_t (show (-1 : Int32) < 0 by decide) ⟨ie, nm_r (back D hD) h⟩
  | succ m ih =>
    intro hm h D hD
    rw [yo_l] at h
    have hD2 : yo_u D e m = yo_u C e m := by
      funext x
      unfold yo_u
      by_cases hx : x = e
      · rw [if_pos hx, if_pos hx]
      · rw [if_neg hx, if_neg hx, hD x hx]
    have hE : ∀ x, x ≠ e → yo_u C e m x = C x := by
      intro x hx
      unfold yo_u
      rw [if_neg hx]
    have hbit : (gp_G A B (yo_u C e m) P 10).testBit e = gp_st A B C P e m := by
      rw [gp_G_b he, hPe, Bool.true_and]
      have : yo_u C e m e = m := if_pos rfl
      rw [this, gp_st_u]
    refine br_f (nI_pos (n := m) (by omega)) (br_f (by decide) ⟨ie, nm_r (by rw [show yo_m (m + 1) = nI m from rfl, yo_u_n he, hD2]) (yw_best0 (A := A) (B := B) (C := yo_u C e m) (P := P) (yo_u_le hC (by omega)) hsp
      (tb_br1 (tb_shr gp_G_lt he) (fun z => nm_r (yo_m_1 m) ?_) (fun z => nm_r (yo_m_1 m) ?_)))⟩)
    · rw [hbit] at z
      rw [if_pos z] at h
      exact br_c (fun _ => ⟨ie, nm_r (back _ hE) h⟩) (fun _ => br_t (nI_pos' (n := m) (by omega)) ⟨ie, nm_r (back _ hE) h⟩)
    · rw [hbit] at z
      rw [if_neg (by simp [z])] at h
      exact ih (by omega) h _ hE
/-- above the heaviest weight e stands just when it is in every spanning forest -/
theorem gp_st51 (hC : ∀ e, C e ≤ 50) (he : e < 10) (hPe : P.testBit e = true) : gp_st A B C P e 51 = yo_n (gp_bs A B P) e 1024 := by
  rw [Bool.eq_iff_iff, gp_st_iff, yo_n_t, gp_need he hPe]
  have : gp_cl A B (gp_S C P e 51) e ↔ gp_cl A B (st_del P.testBit e) e := by
    apply gp_ck_congr
    intro f _
    have := hC f
    have h1 : C f < 51 := by omega
    unfold gp_S gp_bf st_del
    simp [h1]
  rw [this]
/-! narrowest -/
def gp_U (C : Nat → Nat) (P w : Nat) : Nat → Bool := fun e => P.testBit e && decide (C e ≤ w)
theorem gp_pt_congr {S T : Nat → Bool} : ∀ k, (∀ e, e < k → S e = T e) → gp_pt A B S k = gp_pt A B T k := by
  intro k
  induction k with
  | zero => intro _; rfl
  | succ k ih =>
    intro h
    rw [gp_pt, gp_pt, ih (fun e he => h e (by omega)), h k (by omega)]
theorem xw_lup_l {post : SX → Prop} {w : Nat} (hA : ∀ e, A e < 6) (hB : ∀ e, B e < 6) (hC : ∀ e, C e ≤ 50) (hP : P < 1024) (hw : w ≤ 50)
    (h : ∀ q : Nat → Int32, (∀ v, v < 6 → q v = nI (gp_pt A B (gp_U C P w) 10 v)) → post (nI P, gp_n A, gp_n B, gp_n C, q)) :
    ∀ d k, k + d = 10 → ∀ pa : Nat → Int32, (∀ v, v < 6 → pa v = nI (gp_pt A B (gp_U C P w) k v)) → wX_linkUpTo_6 post (nI w) (d + 1) (nI k) (nI P) (gp_n A) (gp_n B) (gp_n C) pa := by
  intro d
  induction d with
  | zero =>
    intro k hk pa hq
    have hk : k = 10 := by omega
    subst hk
    exact pk_le 10 10 (fun _ => h pa hq) (fun z => absurd z (by omega))
  | succ d ih =>
    intro k hk pa hq
    have hc := hC k
    refine pk_le 10 k (fun z => absurd z (by omega)) (fun _ => xw_cont hP (by omega) (tb_br (fun z => ?_) (fun z => ⟨vp_in_nI (by omega) (by omega), pk_lt w (C k) (fun z2 => ?_)
      (fun z2 => xw_link (by omega) hA hB (gp_pt_lt hA (gp_U C P w) k) hq ?_) rfl (gp_n_at (by omega)) (by omega) (by omega)⟩)))
    · exact nm_r (nI_1 k) (ih (k + 1) (by omega) pa (fun v hv => by rw [hq v hv, gp_pt, if_neg (by simp [gp_U, z])]))
    · exact nm_r (nI_1 k) (ih (k + 1) (by omega) pa (fun v hv => by rw [hq v hv, gp_pt, if_neg (by simp [gp_U]; omega)]))
    · intro q hq'
      exact nm_r (nI_1 k) (ih (k + 1) (by omega) q (fun v hv => by rw [hq' v hv, gp_pt, if_pos (by simp [gp_U, z, z2])]))
theorem xw_lup {post : SX → Prop} {w : Nat} {pa : Nat → Int32} (hA : ∀ e, A e < 6) (hB : ∀ e, B e < 6) (hC : ∀ e, C e ≤ 50) (hP : P < 1024) (hw : w ≤ 50)
    (h : ∀ q : Nat → Int32, (∀ v, v < 6 → q v = nI (gp_pt A B (gp_U C P w) 10 v)) → post (nI P, gp_n A, gp_n B, gp_n C, q)) :
    wpX_linkUpTo post (nI P, gp_n A, gp_n B, gp_n C, pa) (nI w) :=
  xw_sep (fun q hq => ⟨_, xw_lup_l hA hB hC hP hw h 10 0 rfl q hq⟩)
def yo_a (A B C : Nat → Nat) (P a b : Nat) : Nat → Nat → Option Nat
  | 0, _ => none
  | d + 1, k => if gp_pt A B (gp_U C P k) 10 a = gp_pt A B (gp_U C P k) 10 b then some k else yo_a A B C P a b d (k + 1)
theorem xw_narrow_l {post : Int32 → SX → Prop} {a b : Nat} (hA : ∀ e, A e < 6) (hB : ∀ e, B e < 6) (hC : ∀ e, C e ≤ 50) (hP : P < 1024) (ha : a < 6) (hb : b < 6) :
    ∀ d k, k + d = 51 → (∀ q : Nat → Int32, post (yo_I (yo_a A B C P a b d k)) (nI P, gp_n A, gp_n B, gp_n C, q)) →
      ∀ pa : Nat → Int32, wX_narrowest_18 post (nI a) (nI b) (d + 1) (nI k) (nI P) (gp_n A) (gp_n B) (gp_n C) pa := by
  intro d
  induction d with
  | zero =>
    intro k hk h pa
    exact pk_lt 50 k (fun _ => h pa) (fun z => absurd z (by omega))
  | succ d ih =>
    intro k hk h pa
    rw [yo_a] at h
    have ia := gp_pt_lt (B := B) hA (gp_U C P k) 10 a ha
    have ib := gp_pt_lt (B := B) hA (gp_U C P k) 10 b hb
    refine pk_lt 50 k (fun z => absurd z (by omega)) (fun _ => xw_lup hA hB hC hP (by omega) (fun q hq => ⟨vp_in_nI ha (by omega), vp_in_nI hb (by omega), pk_eq _ _ (fun z => ?_) (fun z => ?_)
      (by rw [nI_clamp (by omega), hq a ha]) (by rw [nI_clamp (by omega), hq b hb]) (by omega) (by omega)⟩))
    · rw [if_pos z] at h
      exact h q
    · rw [if_neg z] at h
      exact nm_r (nI_1 k) (ih (k + 1) (by omega) h q)
theorem yw_n32 {post : Int32 → SY → Prop} {J : Int32 → (Nat → Int32) → (Nat → Int32) → (Nat → Int32) → (Nat → Int32) → (Nat → Int32) → (Nat → Int32) → (Nat → Int32) → Prop}
    {a b w : Nat} {fo sp pa : Nat → Int32} (hA : ∀ e, A e < 6) (hB : ∀ e, B e < 6) (hC : ∀ e, C e ≤ 50) (ha : a < 6) (hb : b < 6) (hw : w ≤ 50)
    (h1 : gp_pt A B (gp_U C P w) 10 a = gp_pt A B (gp_U C P w) 10 b → ∀ q : Nat → Int32, post (nI w) (gp_th P, gp_n A, gp_n B, gp_n C, fo, sp, q))
    (h2 : ¬ gp_pt A B (gp_U C P w) 10 a = gp_pt A B (gp_U C P w) 10 b → ∀ q : Nat → Int32, J (nI (w + 1)) (gp_th P) (gp_n A) (gp_n B) (gp_n C) fo sp q) :
    ∀ d k, k + d = 10 → wY_narrowest_32 post J (nI a) (nI b) (nI w) (gp_th P) (gp_n A) (gp_n B) (gp_n C) fo sp pa (d + 1) (nI (tb_mk (gp_U C P w) k)) (nI k) := by
  have ia := gp_pt_lt (B := B) hA (gp_U C P w) 10 a ha
  have ib := gp_pt_lt (B := B) hA (gp_U C P w) 10 b hb
  intro d
  induction d with
  | zero =>
    intro k hk
    have hk : k = 10 := by omega
    subst hk
    have hg : gp_pt A B (tb_mk (gp_U C P w) 10).testBit 10 = gp_pt A B (gp_U C P w) 10 := gp_pt_congr 10 (gp_mk_fun _)
    refine pk_le 10 10 (fun _ => yw_join hA hB (tb_mk_lt _ 10 (Nat.le_refl _)) (fun q hq => ⟨vp_in_nI ha (by omega), vp_in_nI hb (by omega), pk_eq _ _ (fun z => ?_) (fun z => ?_)
      (by rw [nI_clamp (by omega), hq a ha, hg]) (by rw [nI_clamp (by omega), hq b hb, hg]) (by omega) (by omega)⟩)) (fun z => absurd z (by omega))
    · exact h1 z q
    · exact nm_r (nI_1 w) (h2 z q)
  | succ d ih =>
    intro k hk
    have hc := hC k
    have hi := ih (k + 1) (by omega)
    rw [tb_mk] at hi
    refine pk_le 10 k (fun z => absurd z (by omega)) (fun _ => ⟨vp_in_nI (by omega) (by omega), tb_brE (gp_th_at (by omega)) (fun z => ?_) (fun z => ⟨vp_in_nI (by omega) (by omega), pk_lt w (C k) (fun z2 => ?_) (fun z2 => ?_)
      rfl (gp_n_at (by omega)) (by omega) (by omega)⟩)⟩)
    · rw [if_neg (by simp [gp_U, z])] at hi
      exact nm_r ((tb_or _ 0).trans (by rw [Nat.or_zero])) (nm_r (nI_1 k) hi)
    · rw [if_neg (by simp [gp_U]; omega)] at hi
      exact nm_r ((tb_or _ 0).trans (by rw [Nat.or_zero])) (nm_r (nI_1 k) hi)
    · rw [if_pos (by simp [gp_U, z, z2]), ← tb_or, ← tb_shl k (by omega)] at hi
      exact nm_e (nm_r (nI_1 k) hi)
theorem yw_narrow_l {post : Int32 → SY → Prop} {a b : Nat} {fo sp : Nat → Int32} (hA : ∀ e, A e < 6) (hB : ∀ e, B e < 6) (hC : ∀ e, C e ≤ 50) (ha : a < 6) (hb : b < 6) :
    ∀ d k, k + d = 51 → (∀ q : Nat → Int32, post (yo_I (yo_a A B C P a b d k)) (gp_th P, gp_n A, gp_n B, gp_n C, fo, sp, q)) →
      ∀ pa : Nat → Int32, wY_narrowest_20 post (nI a) (nI b) (d + 1) (nI k) (gp_th P) (gp_n A) (gp_n B) (gp_n C) fo sp pa := by
  intro d
  induction d with
  | zero =>
    intro k hk h pa
    exact pk_lt 50 k (fun _ => h pa) (fun z => absurd z (by omega))
  | succ d ih =>
    intro k hk h pa
    rw [yo_a] at h
    refine pk_lt 50 k (fun z => absurd z (by omega)) (fun _ => ⟨_, yw_n32 hA hB hC ha hb (by omega) (fun z q => ?_) (fun z q => ?_) 10 0 rfl⟩)
    · rw [if_pos z] at h
      exact h q
    · rw [if_neg z] at h
      exact ih (k + 1) (by omega) h q
/-! add -/
def yo_f (P : Nat) : Nat → Nat → Option Nat
  | 0, _ => none
  | d + 1, k => if P.testBit k = true then yo_f P d (k + 1) else some k
theorem xw_add_l {post : Int32 → SX → Prop} {pa : Nat → Int32} {a b w : Nat} (hP : P < 1024) :
    ∀ d k, k + d = 10 → (yo_f P d k = none → post (-2) (nI P, gp_n A, gp_n B, gp_n C, pa)) →
      (∀ e, e < 10 → yo_f P d k = some e → post (nI e) (nI (P ||| 2 ^ e), gp_n (yo_u A e a), gp_n (yo_u B e b), gp_n (yo_u C e w), pa)) →
      wX_add_31 post (nI a) (nI b) (nI w) (nI P) (gp_n A) (gp_n B) (gp_n C) pa (d + 1) (nI k) := by
  intro d
  induction d with
  | zero =>
    intro k hk h1 _
    exact pk_le 10 k (fun _ => h1 rfl) (fun z => absurd z (by omega))
  | succ d ih =>
    intro k hk h1 h2
    rw [yo_f] at h1 h2
    have hl : k < 10 := by omega
    have ik : vp_in (nI k) 10 := vp_in_nI hl (by omega)
    refine pk_le 10 k (fun z => absurd z (by omega)) (fun _ => xw_cont hP hl (tb_br (fun z => ?_) (fun z => ?_)))
    · rw [if_neg (by simp [z])] at h2
      exact ⟨ik, nm_r (yo_u_n hl) ⟨ik, nm_r (yo_u_n hl) ⟨ik, nm_r (yo_u_n hl) (nm_r (by rw [tb_shl k hl, tb_or]) (h2 k hl rfl))⟩⟩⟩
    · rw [if_pos z] at h1 h2
      exact nm_r (nI_1 k) (ih (k + 1) (by omega) h1 h2)
theorem gp_th_or {e : Nat} (he : e < 10) : upd (gp_th P) (nI e).toNatClampNeg (vp_nar .boolean 1) = gp_th (P ||| 2 ^ e) := by
  funext x
  rw [nI_clamp (by omega), show vp_nar .boolean 1 = tb_B true from tb_vb true]
  unfold upd gp_th
  rw [tb_or_b]
  by_cases h : x = e
  · subst h; simp
  · rw [if_neg h, decide_eq_false (fun z => h z.symm), Bool.or_false]
theorem gp_th_cut {e : Nat} (hP : P < 1024) (he : e < 10) : upd (gp_th P) (nI e).toNatClampNeg (vp_nar .boolean 0) = gp_th (tb_cut P e) := by
  funext x
  rw [nI_clamp (by omega), show vp_nar .boolean 0 = tb_B false from tb_vb false]
  unfold upd gp_th
  rcases Nat.lt_or_ge x 10 with hx | hx
  · rw [tb_cut_b hx]
    by_cases h : x = e
    · subst h; simp
    · rw [if_neg h, decide_eq_false h, Bool.not_false, Bool.and_true]
  · rw [if_neg (by omega), tb_hi hP hx, tb_hi (tb_cut_lt hP) hx]
theorem yw_add_l {post : Int32 → SY → Prop} {fo sp pa : Nat → Int32} {a b w : Nat} :
    ∀ d k, k + d = 10 → (yo_f P d k = none → post (-2) (gp_th P, gp_n A, gp_n B, gp_n C, fo, sp, pa)) →
      (∀ e, e < 10 → yo_f P d k = some e → post (nI e) (gp_th (P ||| 2 ^ e), gp_n (yo_u A e a), gp_n (yo_u B e b), gp_n (yo_u C e w), fo, sp, pa)) →
      wY_add_36 post (nI a) (nI b) (nI w) (gp_th P) (gp_n A) (gp_n B) (gp_n C) fo sp pa (d + 1) (nI k) := by
  intro d
  induction d with
  | zero =>
    intro k hk h1 _
    exact pk_le 10 k (fun _ => h1 rfl) (fun z => absurd z (by omega))
  | succ d ih =>
    intro k hk h1 h2
    rw [yo_f] at h1 h2
    have hl : k < 10 := by omega
    have ik : vp_in (nI k) 10 := vp_in_nI hl (by omega)
    refine pk_le 10 k (fun z => absurd z (by omega)) (fun _ => ⟨ik, tb_brE (gp_th_at hl) (fun z => ?_) (fun z => ?_)⟩)
    · rw [if_neg (by simp [z])] at h2
      exact ⟨ik, nm_r (gp_th_or hl) ⟨ik, nm_r (yo_u_n hl) ⟨ik, nm_r (yo_u_n hl) ⟨ik, nm_r (yo_u_n hl) (h2 k hl rfl)⟩⟩⟩⟩
    · rw [if_pos z] at h1 h2
      exact nm_r (nI_1 k) (ih (k + 1) (by omega) h1 h2)
end
end
section
/-! ===== what is owed ===== -/
def i_Rel (k : Nat) (u : SX) (v : SY) : Prop := ∃ (P : Nat) (A B C : Nat → Nat) (pa fo sp pb : Nat → Int32), P < 1024 ∧ (∀ e, A e < 6) ∧ (∀ e, B e < 6) ∧ (∀ e, C e ≤ 50) ∧
  u = (nI P, gp_n A, gp_n B, gp_n C, pa) ∧ v = (gp_th P, gp_n A, gp_n B, gp_n C, fo, sp, pb)
theorem ow_rel {k P : Nat} {A B C : Nat → Nat} {pa fo sp pb : Nat → Int32} (hP : P < 1024) (hA : ∀ e, A e < 6) (hB : ∀ e, B e < 6) (hC : ∀ e, C e ≤ 50) :
    i_Rel k (nI P, gp_n A, gp_n B, gp_n C, pa) (gp_th P, gp_n A, gp_n B, gp_n C, fo, sp, pb) :=
  ⟨P, A, B, C, pa, fo, sp, pb, hP, hA, hB, hC, rfl, rfl⟩
theorem ow_bad {b : Bool} {X : Prop} (h0 : b = false) (h1 : b = true) : X := by
  rw [h0] at h1
  exact absurd h1 (by decide)
theorem ow_th0 : gp_th 0 = fun _ => 0 := by
  funext e
  unfold gp_th
  rw [Nat.zero_testBit]
  rfl
theorem ow_w (x : Int32) : x < 0 ∨ (¬ x < 0 ∧ 50 < x) ∨ ∃ j : Nat, j ≤ 50 ∧ x = nI j := by
  by_cases h : x < 0
  · exact Or.inl h
  · obtain ⟨j, hj, rfl⟩ := nI_of h
    by_cases h2 : j ≤ 50
    · exact Or.inr (Or.inr ⟨j, h2, rfl⟩)
    · exact Or.inr (Or.inl ⟨h, nI_lt (a := 50) (by omega) hj⟩)
theorem ow_v (x : Int32) : (x < 0 ∨ nI 6 ≤ x) ∨ ∃ j : Nat, j < 6 ∧ x = nI j := by
  rcases pk_ix x (n := 6) (by omega) with h | h | h
  · exact Or.inl (Or.inl h)
  · exact Or.inl (Or.inr h)
  · exact Or.inr h
theorem xw_isV_no {post : Int32 → Prop} {x : Int32} (hx : x < 0 ∨ nI 6 ≤ x) (h : post 0) : wpX_isVertex post x := by
  by_cases h0 : x < 0
  · exact br_t h0 h
  · exact br_f h0 (br_t (hx.resolve_left h0) h)
theorem xw_isV {post : Int32 → Prop} {j : Nat} (hj : j < 6) (h : post 1) : wpX_isVertex post (nI j) :=
  br_f (nI_pos (by omega)) (pk_le 6 j (fun z => absurd z (by omega)) (fun _ => h))
theorem yw_isV_no {post : Int32 → Prop} {v : SY} {x : Int32} (hx : x < 0 ∨ nI 6 ≤ x) (h : post 0) : wpY_vertex post v x := by
  by_cases h0 : x < 0
  · exact br_t h0 h
  · exact br_f h0 (br_t (hx.resolve_left h0) h)
theorem yw_isV {post : Int32 → Prop} {v : SY} {j : Nat} (hj : j < 6) (h : post 1) : wpY_vertex post v (nI j) :=
  br_f (nI_pos (by omega)) (pk_le 6 j (fun z => absurd z (by omega)) (fun _ => h))
theorem ow_n50 {x : Int32} (h : 50 < x) : ¬ x ≤ 50 := Int32.not_le.mpr h
theorem xw_chosen' {A B C : Nat → Nat} {post : Int32 → SX → Prop} {pr x : Int32} {pa : Nat → Int32} {am : Nat} (hA : ∀ e, A e < 6) (hB : ∀ e, B e < 6) (hC : ∀ e, C e ≤ 50)
    (ham : am < 1024) (hx : x = nI am) (h : ∀ q : Nat → Int32, post (nI (gp_G A B C am 10)) (pr, gp_n A, gp_n B, gp_n C, q)) :
    wpX_chosenAmong post (pr, gp_n A, gp_n B, gp_n C, pa) x := by
  subst hx
  exact xw_chosen hA hB hC ham h
theorem ow_cut {P e : Nat} (hP : P < 1024) : (tb_cut P e).testBit = st_del P.testBit e := by
  funext i
  unfold st_del
  rcases Nat.lt_or_ge i 10 with hi | hi
  · exact tb_cut_b hi
  · rw [tb_hi (tb_cut_lt hP) hi, tb_hi hP hi]
    rfl
theorem ow_back {P e : Nat} (hP : P < 1024) (he : e < 10) (hb : P.testBit e = true) : tb_cut P e ||| 2 ^ e = P := by
  refine tb_ext (tb_or_lt (tb_cut_lt hP) (tb_pow he)) hP ?_
  intro i hi
  rw [tb_or_b, tb_cut_b hi]
  by_cases h : i = e
  · subst h
    simp [hb]
  · have : ¬ e = i := fun z => h z.symm
    simp [h, this]
theorem ow_l52 {st : Nat → Bool} : yo_l st 52 = if st 51 = true then some 51 else yo_l st 51 := rfl
theorem ow_loss {A B C : Nat → Nat} {P e : Nat} (hC : ∀ e, C e ≤ 50) (hP : P < 1024) (he : e < 10) (hb : P.testBit e = true) :
    ws_card (gp_G A B C (tb_cut P e) 10).testBit < ws_card (gp_G A B C P 10).testBit ↔ yo_n (gp_bs A B P) e 1024 = true := by
  have h := gp_G_gr (A := A) (B := B) (C := C) (tb_cut P e)
  rw [ow_cut hP] at h
  rw [yo_n_t, gp_need he hb]
  exact gy_loss gp_ax (fun e _ => hC e) he hb (gp_G_gr P) h
theorem i_up {k : Nat} {u : SX} {v : SY} (h : i_Rel k u v) : i_Rel (k + 4) u v := h
theorem i_vc0 : wpX_init (fun u => wpY_init (fun v => i_Rel 0 u v)) :=
  ⟨0, fun _ => 0, fun _ => 0, fun _ => 0, fun _ => 0, fun _ => 0, fun _ => 0, fun _ => 0, by omega, fun _ => (by decide : 0 < 6), fun _ => (by decide : 0 < 6), fun _ => (by decide : 0 ≤ 50), rfl, by rw [ow_th0]; rfl⟩
theorem i_vc_add {k : Nat} {u : SX} {v : SY} (I : i_Rel k u v) (hk : k + 4 ≤ 2048) (v1 : Int32) (v2 : Int32) (v3 : Int32) : wpX_add (fun r u' => wpY_add (fun r' v' => r' = r ∧ i_Rel (k + 4) u' v') v v1 v2 v3) u v1 v2 v3 := by
  obtain ⟨P, A, B, C, pa, fo, sp, pb, hP, hA, hB, hC, rfl, rfl⟩ := I
  by_cases hab : v1 = v2
  · exact br_t hab (br_t hab ⟨rfl, ow_rel hP hA hB hC⟩)
  · rcases ow_v v1 with h1 | ⟨a, ha, rfl⟩
    · exact br_f hab (xw_isV_no h1 (br_t rfl (br_f hab (yw_isV_no h1 (br_t rfl ⟨rfl, ow_rel hP hA hB hC⟩)))))
    · rcases ow_v v2 with h2 | ⟨b, hb, rfl⟩
      · exact br_f hab (xw_isV ha (br_f (by decide) (xw_isV_no h2 (br_t rfl (br_f hab (yw_isV ha (br_f (by decide) (yw_isV_no h2 (br_t rfl ⟨rfl, ow_rel hP hA hB hC⟩)))))))))
      · refine br_f hab (xw_isV ha (br_f (by decide) (xw_isV hb (br_f (by decide) ?_))))
        rcases ow_w v3 with h3 | h3 | ⟨w, hw, rfl⟩
        · exact br_t h3 (br_t rfl (br_f hab (yw_isV ha (br_f (by decide) (yw_isV hb (br_f (by decide) (br_t h3 ⟨rfl, ow_rel hP hA hB hC⟩)))))))
        · exact br_f h3.1 (br_t h3.2 (br_t rfl (br_f hab (yw_isV ha (br_f (by decide) (yw_isV hb (br_f (by decide) (br_f h3.1 (br_f (ow_n50 h3.2) ⟨rfl, ow_rel hP hA hB hC⟩)))))))))
        · have hy : ∀ Q : Int32 → SY → Prop, (∃ n36 : Nat, wY_add_36 Q (nI a) (nI b) (nI w) (gp_th P) (gp_n A) (gp_n B) (gp_n C) fo sp pb n36 0) → wpY_add Q (gp_th P, gp_n A, gp_n B, gp_n C, fo, sp, pb) (nI a) (nI b) (nI w) :=
            fun Q h => br_f hab (yw_isV ha (br_f (by decide) (yw_isV hb (br_f (by decide) (br_f (nI_pos (by omega)) (pk_le w 50 (fun _ => h) (fun z => absurd z (by omega))))))))
          refine br_f (nI_pos (by omega)) (pk_lt 50 w (fun z => absurd z (by omega)) (fun _ => br_f (by decide) ⟨_, xw_add_l hP 10 0 rfl (fun z => hy _ ⟨_, yw_add_l 10 0 rfl (fun _ => ⟨rfl, ow_rel hP hA hB hC⟩) (fun e _ y => ?_)⟩) (fun e he z => hy _ ⟨_, yw_add_l 10 0 rfl (fun y => ?_) (fun e' _ y => ?_)⟩)⟩))
          · rw [z] at y
            exact absurd y (by simp)
          · rw [z] at y
            exact absurd y (by simp)
          · rw [z] at y
            injection y with y
            subst y
            exact ⟨rfl, ow_rel (tb_or_lt hP (tb_pow he)) (yo_u_lt hA ha) (yo_u_lt hB hb) (yo_u_le hC hw)⟩
theorem i_vc_remove {k : Nat} {u : SX} {v : SY} (I : i_Rel k u v) (hk : k + 4 ≤ 2048) (v1 : Int32) : wpX_remove (fun r u' => wpY_remove (fun r' v' => r' = r ∧ i_Rel (k + 4) u' v') v v1) u v1 := by
  obtain ⟨P, A, B, C, pa, fo, sp, pb, hP, hA, hB, hC, rfl, rfl⟩ := I
  rcases pk_ix v1 (n := 10) (by omega) with h | h | ⟨j, hj, rfl⟩
  · unfold wpX_remove wpY_remove
    exact xw_cont_out (Or.inl h) (br_t rfl (yw_is_out (Or.inl h) (br_t rfl ⟨rfl, ow_rel hP hA hB hC⟩)))
  · unfold wpX_remove wpY_remove
    exact xw_cont_out (Or.inr h) (br_t rfl (yw_is_out (Or.inr h) (br_t rfl ⟨rfl, ow_rel hP hA hB hC⟩)))
  · unfold wpX_remove wpY_remove
    refine xw_cont hP hj (tb_br (fun z => ?_) (fun z => ?_))
    · exact yw_is hj (tb_br (fun _ => ⟨rfl, ow_rel hP hA hB hC⟩) (fun y => ow_bad z y))
    · exact nm_r (tb_cutI hj) (yw_is hj (tb_br (fun y => ow_bad y z) (fun _ => ⟨vp_in_nI hj (by omega), nm_r (gp_th_cut hP hj) ⟨rfl, ow_rel (tb_cut_lt hP) hA hB hC⟩⟩)))
theorem i_vc_reweigh {k : Nat} {u : SX} {v : SY} (I : i_Rel k u v) (hk : k + 4 ≤ 2048) (v1 : Int32) (v2 : Int32) : wpX_reweigh (fun r u' => wpY_reweigh (fun r' v' => r' = r ∧ i_Rel (k + 4) u' v') v v1 v2) u v1 v2 := by
  obtain ⟨P, A, B, C, pa, fo, sp, pb, hP, hA, hB, hC, rfl, rfl⟩ := I
  rcases pk_ix v1 (n := 10) (by omega) with h | h | ⟨j, hj, rfl⟩
  · unfold wpX_reweigh wpY_reweigh
    exact xw_cont_out (Or.inl h) (br_t rfl (yw_is_out (Or.inl h) (br_t rfl ⟨rfl, ow_rel hP hA hB hC⟩)))
  · unfold wpX_reweigh wpY_reweigh
    exact xw_cont_out (Or.inr h) (br_t rfl (yw_is_out (Or.inr h) (br_t rfl ⟨rfl, ow_rel hP hA hB hC⟩)))
  · unfold wpX_reweigh wpY_reweigh
    refine xw_cont hP hj (tb_br (fun z => ?_) (fun z => ?_))
    · exact yw_is hj (tb_br (fun _ => ⟨rfl, ow_rel hP hA hB hC⟩) (fun y => ow_bad z y))
    · have ij : vp_in (nI j) 10 := vp_in_nI hj (by omega)
      rcases ow_w v2 with h3 | h3 | ⟨w, hw, rfl⟩
      · exact br_t h3 (br_t rfl (yw_is hj (tb_br (fun y => ow_bad y z) (fun _ => br_t h3 ⟨rfl, ow_rel hP hA hB hC⟩))))
      · exact br_f h3.1 (br_t h3.2 (br_t rfl (yw_is hj (tb_br (fun y => ow_bad y z) (fun _ => br_f h3.1 (br_f (ow_n50 h3.2) ⟨rfl, ow_rel hP hA hB hC⟩))))))
      · exact br_f (nI_pos (by omega)) (pk_lt 50 w (fun z => absurd z (by omega)) (fun _ => br_f (by decide) ⟨ij, nm_r (yo_u_n hj) (yw_is hj (tb_br (fun y => ow_bad y z) (fun _ => br_f (nI_pos (by omega)) (pk_le w 50 (fun _ => ⟨ij, nm_r (yo_u_n hj) ⟨rfl, ow_rel hP hA hB (yo_u_le hC hw)⟩⟩) (fun z => absurd z (by omega))))))⟩))
theorem i_vc_edges {k : Nat} {u : SX} {v : SY} (I : i_Rel k u v) (hk : k + 4 ≤ 2048) : wpX_edges (fun r => wpY_edges (fun r' => r' = r ∧ i_Rel (k + 4) u v) v) u := by
  obtain ⟨P, A, B, C, pa, fo, sp, pb, hP, hA, hB, hC, rfl, rfl⟩ := I
  exact yw_edges hP ⟨rfl, ow_rel hP hA hB hC⟩
theorem i_vc_weight {k : Nat} {u : SX} {v : SY} (I : i_Rel k u v) (hk : k + 4 ≤ 2048) (v1 : Int32) : wpX_weight (fun r => wpY_weight (fun r' => r' = r ∧ i_Rel (k + 4) u v) v v1) u v1 := by
  obtain ⟨P, A, B, C, pa, fo, sp, pb, hP, hA, hB, hC, rfl, rfl⟩ := I
  rcases pk_ix v1 (n := 10) (by omega) with h | h | ⟨j, hj, rfl⟩
  · unfold wpX_weight wpY_weight
    exact xw_cont_out (Or.inl h) (br_t rfl (yw_is_out (Or.inl h) (br_t rfl ⟨rfl, ow_rel hP hA hB hC⟩)))
  · unfold wpX_weight wpY_weight
    exact xw_cont_out (Or.inr h) (br_t rfl (yw_is_out (Or.inr h) (br_t rfl ⟨rfl, ow_rel hP hA hB hC⟩)))
  · unfold wpX_weight wpY_weight
    refine xw_cont hP hj (tb_br (fun z => ?_) (fun z => ?_))
    · exact yw_is hj (tb_br (fun _ => ⟨rfl, ow_rel hP hA hB hC⟩) (fun y => ow_bad z y))
    · exact ⟨vp_in_nI hj (by omega), yw_is hj (tb_br (fun y => ow_bad y z) (fun _ => ⟨vp_in_nI hj (by omega), rfl, ow_rel hP hA hB hC⟩))⟩
theorem i_vc_chosen {k : Nat} {u : SX} {v : SY} (I : i_Rel k u v) (hk : k + 4 ≤ 2048) : wpX_chosen (fun r u' => wpY_chosen (fun r' v' => r' = r ∧ i_Rel (k + 4) u' v') v) u := by
  obtain ⟨P, A, B, C, pa, fo, sp, pb, hP, hA, hB, hC, rfl, rfl⟩ := I
  unfold wpX_chosen
  dsimp only
  refine xw_chosen hA hB hC hP (fun q => ?_)
  exact yw_chosen hA hB hC hP (fun _ _ _ _ => ⟨rfl, ow_rel hP hA hB hC⟩)
theorem i_vc_total {k : Nat} {u : SX} {v : SY} (I : i_Rel k u v) (hk : k + 4 ≤ 2048) : wpX_total (fun r u' => wpY_total (fun r' v' => r' = r ∧ i_Rel (k + 4) u' v') v) u := by
  obtain ⟨P, A, B, C, pa, fo, sp, pb, hP, hA, hB, hC, rfl, rfl⟩ := I
  unfold wpX_total
  dsimp only
  refine xw_chosen hA hB hC hP (fun q => ?_)
  refine xw_weight gp_G_lt ?_
  exact yw_total hA hB hC hP (fun _ _ _ _ => ⟨rfl, ow_rel hP hA hB hC⟩)
theorem i_vc_limit {k : Nat} {u : SX} {v : SY} (I : i_Rel k u v) (hk : k + 4 ≤ 2048) (v1 : Int32) : wpX_limit (fun r u' => wpY_limit (fun r' v' => r' = r ∧ i_Rel (k + 4) u' v') v v1) u v1 := by
  obtain ⟨P, A, B, C, pa, fo, sp, pb, hP, hA, hB, hC, rfl, rfl⟩ := I
  rcases pk_ix v1 (n := 10) (by omega) with h | h | ⟨j, hj, rfl⟩
  · unfold wpX_limit wpY_limit
    exact xw_cont_out (Or.inl h) (br_t rfl (yw_is_out (Or.inl h) (br_t rfl ⟨rfl, ow_rel hP hA hB hC⟩)))
  · unfold wpX_limit wpY_limit
    exact xw_cont_out (Or.inr h) (br_t rfl (yw_is_out (Or.inr h) (br_t rfl ⟨rfl, ow_rel hP hA hB hC⟩)))
  · unfold wpX_limit
    refine xw_cont hP hj (tb_br (fun z => ?_) (fun z => ?_))
    · unfold wpY_limit
      exact yw_is hj (tb_br (fun _ => ⟨rfl, ow_rel hP hA hB hC⟩) (fun y => ow_bad z y))
    · refine ⟨_, xw_limit_l hA hB hC hP hj 52 (Nat.le_refl _) (fun q => ?_) pa⟩
      unfold wpY_limit
      dsimp only
      refine yw_is hj (tb_br (fun y => ow_bad y z) (fun _ => ?_))
      refine yw_work hA hB hP (fun fo sp pb hs => ?_)
      refine yw_need hj hs (tb_br (fun y => ⟨vp_in_nI hj (by omega), nm_r (gp_n_at hj) ⟨_, yw_limit_l hC hj z hs 51 (Nat.le_refl _) ⟨?_, ow_rel hP hA hB hC⟩ C (fun _ _ => rfl)⟩⟩) (fun y => ⟨?_, ow_rel hP hA hB hC⟩))
      · rw [ow_l52, gp_st51 hC hj z, y]
        rfl
      · rw [ow_l52, gp_st51 hC hj z, y]
        rfl
theorem i_vc_loss {k : Nat} {u : SX} {v : SY} (I : i_Rel k u v) (hk : k + 4 ≤ 2048) (v1 : Int32) : wpX_loss (fun r u' => wpY_loss (fun r' v' => r' = r ∧ i_Rel (k + 4) u' v') v v1) u v1 := by
  obtain ⟨P, A, B, C, pa, fo, sp, pb, hP, hA, hB, hC, rfl, rfl⟩ := I
  rcases pk_ix v1 (n := 10) (by omega) with h | h | ⟨j, hj, rfl⟩
  · unfold wpX_loss wpY_loss
    exact xw_cont_out (Or.inl h) (br_t rfl (yw_is_out (Or.inl h) (br_t rfl ⟨rfl, ow_rel hP hA hB hC⟩)))
  · unfold wpX_loss wpY_loss
    exact xw_cont_out (Or.inr h) (br_t rfl (yw_is_out (Or.inr h) (br_t rfl ⟨rfl, ow_rel hP hA hB hC⟩)))
  · unfold wpX_loss
    refine xw_cont hP hj (tb_br (fun z => ?_) (fun z => ?_))
    · unfold wpY_loss
      exact yw_is hj (tb_br (fun _ => ⟨rfl, ow_rel hP hA hB hC⟩) (fun y => ow_bad z y))
    · have hl := ow_loss (A := A) (B := B) hC hP hj z
      have l1 : ws_card (gp_G A B C (tb_cut P j) 10).testBit ≤ 10 * 1 := ws_le 10 (fun _ _ => Nat.le_refl _)
      have l2 : ws_card (gp_G A B C P 10).testBit ≤ 10 * 1 := ws_le 10 (fun _ _ => Nat.le_refl _)
      refine xw_chosen hA hB hC hP (fun q => ?_)
      refine xw_chosen' hA hB hC (tb_cut_lt hP) (tb_cutI hj) (fun q => ?_)
      refine xw_size gp_G_lt (xw_size gp_G_lt (pk_le _ _ (fun y => ?_) (fun y => ?_) rfl rfl (by omega) (by omega)))
      · refine xw_weight gp_G_lt (xw_weight gp_G_lt ?_)
        unfold wpY_loss
        dsimp only
        refine yw_is hj (tb_br (fun y => ow_bad y z) (fun _ => ?_))
        refine yw_total hA hB hC hP (fun fo sp pb hs => ?_)
        refine yw_need hj hs (tb_br (fun _ => ⟨vp_in_nI hj (by omega), nm_r (gp_th_cut hP hj) ?_⟩) (fun x => ?_))
        · refine yw_total hA hB hC (tb_cut_lt hP) (fun fo sp pb hs => ?_)
          exact ⟨vp_in_nI hj (by omega), nm_r ((gp_th_or hj).trans (by rw [ow_back hP hj z])) ⟨rfl, ow_rel hP hA hB hC⟩⟩
        · have := hl.mpr x
          omega
      · unfold wpY_loss
        dsimp only
        refine yw_is hj (tb_br (fun y => ow_bad y z) (fun _ => ?_))
        refine yw_total hA hB hC hP (fun fo sp pb hs => ?_)
        exact yw_need hj hs (tb_br (fun x => ow_bad x (hl.mp y)) (fun _ => ⟨rfl, ow_rel hP hA hB hC⟩))
theorem i_vc_second {k : Nat} {u : SX} {v : SY} (I : i_Rel k u v) (hk : k + 4 ≤ 2048) : wpX_second (fun r u' => wpY_second (fun r' v' => r' = r ∧ i_Rel (k + 4) u' v') v) u := by
  obtain ⟨P, A, B, C, pa, fo, sp, pb, hP, hA, hB, hC, rfl, rfl⟩ := I
  unfold wpX_second
  dsimp only
  refine xw_chosen hA hB hC hP (fun q => ?_)
  refine xw_size gp_G_lt ⟨_, xw_second_l hA hB hC (fun q => ?_) 1024 0 rfl q⟩
  unfold wpY_second
  dsimp only
  refine yw_chosen hA hB hC hP (fun fo sp pb hs => ?_)
  have hG : gp_G A B C P 10 < 1024 := gp_G_lt
  refine yw_best (nv := some (gp_G A B C P 10)) hC (fun b hb => by injection hb with hb; omega) hs ?_
  cases hb : yo_b C (gp_bs A B P) (some (gp_G A B C P 10)) 1024 with
  | none => exact br_f (by decide) ⟨rfl, ow_rel hP hA hB hC⟩
  | some b =>
    have hl := ((yo_b_spec 1024).2 b hb).1
    exact br_t (nI_pos' (by omega)) (yw_sum hl ⟨rfl, ow_rel hP hA hB hC⟩)
theorem i_vc_forests {k : Nat} {u : SX} {v : SY} (I : i_Rel k u v) (hk : k + 4 ≤ 2048) : wpX_forests (fun r u' => wpY_forests (fun r' v' => r' = r ∧ i_Rel (k + 4) u' v') v) u := by
  obtain ⟨P, A, B, C, pa, fo, sp, pb, hP, hA, hB, hC, rfl, rfl⟩ := I
  have hL : ws_sm C (gp_G A B C P 10).testBit 10 ≤ 500 := ws_le 10 (fun e _ => hC e)
  unfold wpX_forests
  dsimp only
  refine xw_chosen hA hB hC hP (fun q => ?_)
  refine xw_size gp_G_lt (xw_weight gp_G_lt ⟨_, xw_forests_l hA hB hC hL (fun q => ?_) 1024 0 rfl q⟩)
  unfold wpY_forests
  dsimp only
  refine yw_total hA hB hC hP (fun fo sp pb hs => ?_)
  exact ⟨_, yw_forests_l hC hL hs ⟨rfl, ow_rel hP hA hB hC⟩ 1024 0 rfl⟩
theorem i_vc_allForests {k : Nat} {u : SX} {v : SY} (I : i_Rel k u v) (hk : k + 4 ≤ 2048) : wpX_allForests (fun r u' => wpY_allForests (fun r' v' => r' = r ∧ i_Rel (k + 4) u' v') v) u := by
  obtain ⟨P, A, B, C, pa, fo, sp, pb, hP, hA, hB, hC, rfl, rfl⟩ := I
  unfold wpX_allForests
  dsimp only
  refine xw_chosen hA hB hC hP (fun q => ?_)
  refine xw_size gp_G_lt ⟨_, xw_all_l hA hB hC (fun q => ?_) 1024 0 rfl q⟩
  unfold wpY_allForests
  dsimp only
  refine yw_work hA hB hP (fun fo sp pb hs => ?_)
  exact ⟨_, yw_all_l hs ⟨rfl, ow_rel hP hA hB hC⟩ 1024 0 rfl⟩
theorem i_vc_narrowest {k : Nat} {u : SX} {v : SY} (I : i_Rel k u v) (hk : k + 4 ≤ 2048) (v1 : Int32) (v2 : Int32) : wpX_narrowest (fun r u' => wpY_narrowest (fun r' v' => r' = r ∧ i_Rel (k + 4) u' v') v v1 v2) u v1 v2 := by
  obtain ⟨P, A, B, C, pa, fo, sp, pb, hP, hA, hB, hC, rfl, rfl⟩ := I
  unfold wpX_narrowest wpY_narrowest
  rcases ow_v v1 with h1 | ⟨a, ha, rfl⟩
  · exact xw_isV_no h1 (br_t rfl (yw_isV_no h1 (br_t rfl ⟨rfl, ow_rel hP hA hB hC⟩)))
  · rcases ow_v v2 with h2 | ⟨b, hb, rfl⟩
    · exact xw_isV ha (br_f (by decide) (xw_isV_no h2 (br_t rfl (yw_isV ha (br_f (by decide) (yw_isV_no h2 (br_t rfl ⟨rfl, ow_rel hP hA hB hC⟩)))))))
    · exact xw_isV ha (br_f (by decide) (xw_isV hb (br_f (by decide) ⟨_, xw_narrow_l hA hB hC hP ha hb 51 0 rfl (fun q => yw_isV ha (br_f (by decide) (yw_isV hb (br_f (by decide) ⟨_, yw_narrow_l hA hB hC ha hb 51 0 rfl (fun _ => ⟨rfl, ow_rel hP hA hB hC⟩) pb⟩)))) pa⟩)))
theorem i_vc_possible {k : Nat} {u : SX} {v : SY} (I : i_Rel k u v) (hk : k + 4 ≤ 2048) : wpX_possible (fun r u' => wpY_possible (fun r' v' => r' = r ∧ i_Rel (k + 4) u' v') v) u := by
  obtain ⟨P, A, B, C, pa, fo, sp, pb, hP, hA, hB, hC, rfl, rfl⟩ := I
  have hL : ws_sm C (gp_G A B C P 10).testBit 10 ≤ 500 := ws_le 10 (fun e _ => hC e)
  unfold wpX_possible
  dsimp only
  refine xw_chosen hA hB hC hP (fun q => ?_)
  refine xw_size gp_G_lt (xw_weight gp_G_lt ⟨_, xw_possible_l hA hB hC hL (fun q => ?_) 1024 0 rfl q⟩)
  unfold wpY_possible
  dsimp only
  refine yw_total hA hB hC hP (fun fo sp pb hs => ?_)
  exact ⟨_, yw_possible_l hC hL hs ⟨rfl, ow_rel hP hA hB hC⟩ 1024 0 rfl⟩
theorem i_vc_certain {k : Nat} {u : SX} {v : SY} (I : i_Rel k u v) (hk : k + 4 ≤ 2048) : wpX_certain (fun r u' => wpY_certain (fun r' v' => r' = r ∧ i_Rel (k + 4) u' v') v) u := by
  obtain ⟨P, A, B, C, pa, fo, sp, pb, hP, hA, hB, hC, rfl, rfl⟩ := I
  have hL : ws_sm C (gp_G A B C P 10).testBit 10 ≤ 500 := ws_le 10 (fun e _ => hC e)
  unfold wpX_certain
  dsimp only
  refine xw_chosen hA hB hC hP (fun q => ?_)
  refine xw_size gp_G_lt (xw_weight gp_G_lt ⟨_, xw_certain_l hA hB hC hL (fun q => ?_) 1024 0 rfl q⟩)
  unfold wpY_certain
  dsimp only
  refine yw_total hA hB hC hP (fun fo sp pb hs => ?_)
  exact yw_edges hP ⟨_, yw_certain_l hC hL hs ⟨by rw [ct_cert hC]; rfl, ow_rel hP hA hB hC⟩ 1024 0 rfl⟩
end
