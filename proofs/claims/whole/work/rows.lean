section
theorem pk_us {f : Nat → Int32} {k : Nat} {x : Int32} : upd f k x k = x := if_pos rfl
theorem pk_un {f : Nat → Int32} {k j : Nat} {x : Int32} (h : j ≠ k) : upd f k x j = f j := if_neg h
theorem pk_sub {a b : Nat} (h : b ≤ a) : nI a - nI b = nI (a - b) := by
  obtain ⟨c, rfl⟩ : ∃ c, a = c + b := ⟨a - b, by omega⟩
  rw [← nI_add, Int32.add_sub_cancel, Nat.add_sub_cancel]
theorem pk_m1 (n : Nat) : nI (n + 1) + (-1) = nI n := by
  rw [← nI_1, Int32.add_assoc, show (1 : Int32) + (-1) = 0 from rfl, Int32.add_zero]
theorem pk_ix (x : Int32) {n : Nat} (hn : n < 2 ^ 31) : x < 0 ∨ nI n ≤ x ∨ ∃ j : Nat, j < n ∧ x = nI j := by
  by_cases h : x < 0
  · exact Or.inl h
  · obtain ⟨j, hj, rfl⟩ := nI_of h
    by_cases h2 : j < n
    · exact Or.inr (Or.inr ⟨j, h2, rfl⟩)
    · exact Or.inr (Or.inl (nI_le (by omega) hj))
theorem pk_le {x y : Int32} {A B : Prop} (a b : Nat) (f : a ≤ b → A) (g : b < a → B) (hx : x = nI a := by rfl) (hy : y = nI b := by rfl) (ha : a < 2 ^ 31 := by omega) (hb : b < 2 ^ 31 := by omega) : (x ≤ y → A) ∧ (¬ x ≤ y → B) := by
  subst hx hy
  rw [nI_leI ha hb]
  exact ⟨f, fun z => g (by omega)⟩
theorem pk_lt {x y : Int32} {A B : Prop} (a b : Nat) (f : a < b → A) (g : b ≤ a → B) (hx : x = nI a := by rfl) (hy : y = nI b := by rfl) (ha : a < 2 ^ 31 := by omega) (hb : b < 2 ^ 31 := by omega) : (x < y → A) ∧ (¬ x < y → B) := by
  subst hx hy
  rw [nI_ltI ha hb]
  exact ⟨f, fun z => g (by omega)⟩
theorem pk_eq {x y : Int32} {A B : Prop} (a b : Nat) (f : a = b → A) (g : a ≠ b → B) (hx : x = nI a := by rfl) (hy : y = nI b := by rfl) (ha : a < 2 ^ 31 := by omega) (hb : b < 2 ^ 31 := by omega) : (x = y → A) ∧ (¬ x = y → B) := by
  subst hx hy
  rw [nI_eq ha hb]
  exact ⟨f, g⟩
theorem pk_in {x : Int32} (n N : Nat) (h : n < N) (hx : x = nI n := by rfl) (hN : N < 2 ^ 31 := by omega) : vp_in x N := by
  subst hx
  exact vp_in_nI h hN
theorem pk_cl {x : Int32} (n : Nat) (hx : x = nI n := by rfl) (h : n < 2 ^ 31 := by omega) : x.toNatClampNeg = n := by
  subst hx
  exact nI_clamp h
theorem pk_tn {n : Nat} (h : n < 2 ^ 32) : (nI n).toBitVec.toNat = n := Nat.mod_eq_of_lt h
theorem pk_and (x : Int32) {m : Int32} (k : Nat) (hm : m.toBitVec.toNat = 2 ^ k - 1) : x &&& m = nI (x.toBitVec.toNat % 2 ^ k) := by
  apply Int32.toBitVec_inj.mp
  apply BitVec.eq_of_toNat_eq
  rw [Int32.toBitVec_and, BitVec.toNat_and, hm, Nat.and_two_pow_sub_one_eq_mod]
  show _ = (BitVec.ofNat 32 _).toNat
  rw [BitVec.toNat_ofNat]
  exact (Nat.mod_eq_of_lt (Nat.lt_of_le_of_lt (Nat.mod_le _ _) x.toBitVec.isLt)).symm
theorem pk_andN {n : Nat} (h : n < 2 ^ 32) {m : Int32} (k : Nat) (hm : m.toBitVec.toNat = 2 ^ k - 1) : nI n &&& m = nI (n % 2 ^ k) := by
  rw [pk_and _ k hm, pk_tn h]
theorem pk_andE (x : Int32) {m : Int32} (k : Nat) (hm : m.toBitVec.toNat = 2 ^ k - 1) : ∃ j : Nat, j < 2 ^ k ∧ x &&& m = nI j := ⟨_, Nat.mod_lt _ (Nat.two_pow_pos k), pk_and x k hm⟩
theorem pk_andIn (x : Int32) {m : Int32} (k : Nat) (hm : m.toBitVec.toNat = 2 ^ k - 1) (hk : k ≤ 30) : vp_in (x &&& m) (2 ^ k) := by
  obtain ⟨j, hj, e⟩ := pk_andE x k hm
  rw [e]
  exact vp_in_nI hj (Nat.lt_of_le_of_lt (Nat.pow_le_pow_right (by decide) hk) (by decide))
theorem pk_shl (a s : Int32) (k : Nat) (hs : (s.toBitVec.smod 32).toNat = k) : (a <<< s).toBitVec.toNat = a.toBitVec.toNat * 2 ^ k % 2 ^ 32 := by
  show (a.toBitVec <<< (s.toBitVec.smod 32).toNat).toNat = _
  rw [hs, BitVec.toNat_shiftLeft, Nat.shiftLeft_eq]
theorem pk_shlN {n : Nat} (s : Int32) (k : Nat) (hs : (s.toBitVec.smod 32).toNat = k) (h : n * 2 ^ k < 2 ^ 32) : nI n <<< s = nI (n * 2 ^ k) := by
  apply Int32.toBitVec_inj.mp
  apply BitVec.eq_of_toNat_eq
  have hn : n < 2 ^ 32 := Nat.lt_of_le_of_lt (Nat.le_mul_of_pos_right n (Nat.two_pow_pos k)) h
  rw [pk_shl _ _ k hs, pk_tn hn, pk_tn h, Nat.mod_eq_of_lt h]
theorem pk_shr (a s : Int32) (k : Nat) (hs : (s.toBitVec.smod 32).toNat = k) : (a >>> s).toInt = a.toInt >>> k := by
  show (a.toBitVec.sshiftRight (s.toBitVec.smod 32).toNat).toInt = _
  rw [hs, BitVec.toInt_sshiftRight]
  rfl
theorem pk_shrN {n : Nat} (h : n < 2 ^ 31) (s : Int32) (k : Nat) (hs : (s.toBitVec.smod 32).toNat = k) : nI n >>> s = nI (n / 2 ^ k) := by
  apply Int32.toInt_inj.mp
  have h2 : n / 2 ^ k ≤ n := Nat.div_le_self _ _
  rw [pk_shr _ _ k hs, nI_toInt h, nI_toInt (by omega), Int.shiftRight_eq_div_pow]
  rfl
theorem s_l : ∀ n, n < 32 → ((nI n &&& 31).toBitVec.smod 32).toNat = n := by decide +kernel
theorem nx_and (a b : Nat) : nI a &&& nI b = nI (a &&& b) := by
  apply Int32.toBitVec_inj.1
  show BitVec.ofNat 32 a &&& BitVec.ofNat 32 b = BitVec.ofNat 32 (a &&& b)
  apply BitVec.eq_of_getLsbD_eq
  intro i hi
  simp [hi]
theorem nx_xor (a b : Nat) : nI a ^^^ nI b = nI (a ^^^ b) := by
  apply Int32.toBitVec_inj.1
  show BitVec.ofNat 32 a ^^^ BitVec.ofNat 32 b = BitVec.ofNat 32 (a ^^^ b)
  apply BitVec.eq_of_getLsbD_eq
  intro i hi
  simp [hi]
/-! ===== sets of edges as numbers below 1024, bit e for edge e ===== -/
def tb_B (b : Bool) : Int32 := if b = true then 1 else 0
theorem tb_or (a b : Nat) : nI a ||| nI b = nI (a ||| b) := by
  apply Int32.toBitVec_inj.1
  show BitVec.ofNat 32 a ||| BitVec.ofNat 32 b = BitVec.ofNat 32 (a ||| b)
  apply BitVec.eq_of_getLsbD_eq
  intro i hi
  simp [hi]
theorem tb_shl : ∀ e, e < 10 → (1 : Int32) <<< (nI e &&& 31) = nI (2 ^ e) := by decide +kernel
theorem tb_hi {s i : Nat} (hs : s < 1024) (hi : 10 ≤ i) : s.testBit i = false :=
  Nat.testBit_lt_two_pow (Nat.lt_of_lt_of_le hs (Nat.pow_le_pow_right (n := 2) (by decide) hi : 2 ^ 10 ≤ 2 ^ i))
theorem tb_ext {s t : Nat} (hs : s < 1024) (ht : t < 1024) (h : ∀ e, e < 10 → s.testBit e = t.testBit e) : s = t := by
  apply Nat.eq_of_testBit_eq
  intro i
  rcases Nat.lt_or_ge i 10 with hi | hi
  · exact h i hi
  · rw [tb_hi hs hi, tb_hi ht hi]
theorem tb_0 {z : Nat} (hz : z < 1024) : nI z = 0 ↔ ∀ e, e < 10 → z.testBit e = false := by
  rw [show (0 : Int32) = nI 0 from rfl, nI_eq (by omega) (by omega)]
  constructor
  · intro h e _
    rw [h, Nat.zero_testBit]
  · intro h
    exact tb_ext hz (by omega) (fun e he => by rw [h e he, Nat.zero_testBit])
theorem tb_pow {e : Nat} (he : e < 10) : 2 ^ e < 1024 := Nat.pow_lt_pow_right (a := 2) (by decide) he
theorem tb_has {s e : Nat} (hs : s < 1024) (he : e < 10) : (nI s &&& ((1 : Int32) <<< (nI e &&& 31))) = 0 ↔ s.testBit e = false := by
  rw [tb_shl e he, nx_and, tb_0 (Nat.lt_of_le_of_lt Nat.and_le_left hs)]
  constructor
  · intro h
    have := h e he
    rw [Nat.testBit_and, Nat.testBit_two_pow_self, Bool.and_true] at this
    exact this
  · intro h i hi
    rw [Nat.testBit_and, Nat.testBit_two_pow]
    by_cases hie : e = i
    · subst hie; rw [h, Bool.false_and]
    · simp [hie]
theorem tb_shr {s e : Nat} (hs : s < 1024) (he : e < 10) : ((nI s >>> (nI e &&& 31)) &&& 1) = tb_B (s.testBit e) := by
  rw [pk_shrN (by omega) _ e (s_l e (by omega)), pk_andN (by have := Nat.div_le_self s (2 ^ e); omega) 1 (by decide), Nat.testBit_eq_decide_div_mod_eq]
  unfold tb_B
  have h2 : s / 2 ^ e % 2 ^ 1 = 0 ∨ s / 2 ^ e % 2 ^ 1 = 1 := by omega
  rcases h2 with h | h
  · rw [h, if_neg (by rw [decide_eq_true_eq]; omega)]; rfl
  · rw [h, if_pos (decide_eq_true (by omega))]; rfl
theorem tb_B1 (b : Bool) : tb_B b = 1 ↔ b = true := by cases b <;> decide
theorem tb_B0 (b : Bool) : tb_B b = 0 ↔ b = false := by cases b <;> decide
theorem tb_Be (a b : Bool) : tb_B a = tb_B b ↔ a = b := by cases a <;> cases b <;> decide
theorem tb_nb (b : Bool) : narrow .boolean (.int (tb_B b)) = .int (tb_B b) := by cases b <;> rfl
theorem tb_vb (b : Bool) : vp_nar .boolean (tb_B b) = tb_B b := by cases b <;> rfl
def tb_cut (p e : Nat) : Nat := p &&& (2 ^ e ^^^ 4294967295)
theorem tb_m1 : (-1 : Int32) = nI 4294967295 := by decide +kernel
theorem tb_bm1 {i : Nat} (hi : i < 32) : (4294967295 : Nat).testBit i = true := by
  rw [show (4294967295 : Nat) = 2 ^ 32 - 1 from rfl, Nat.testBit_two_pow_sub_one]
  exact decide_eq_true hi
theorem tb_cutI {p e : Nat} (he : e < 10) : nI p &&& (((1 : Int32) <<< (nI e &&& 31)) ^^^ (-1)) = nI (tb_cut p e) := by
  rw [tb_shl e he, tb_m1, nx_xor, nx_and, tb_cut]
theorem tb_cut_lt {p e : Nat} (hp : p < 1024) : tb_cut p e < 1024 := Nat.lt_of_le_of_lt Nat.and_le_left hp
theorem tb_cut_b {p e i : Nat} (hi : i < 10) : (tb_cut p e).testBit i = (p.testBit i && !decide (i = e)) := by
  rw [tb_cut, Nat.testBit_and, Nat.testBit_xor, Nat.testBit_two_pow, tb_bm1 (by omega)]
  by_cases h : e = i
  · simp [h]
  · simp [h]
    exact fun _ z => h z.symm
theorem tb_sub {s p : Nat} (hs : s < 1024) : (nI s &&& (nI p ^^^ (-1))) = 0 ↔ ∀ e, e < 10 → s.testBit e = true → p.testBit e = true := by
  rw [tb_m1, nx_xor, nx_and, tb_0 (Nat.lt_of_le_of_lt Nat.and_le_left hs)]
  constructor
  · intro h e he hse
    have := h e he
    rw [Nat.testBit_and, Nat.testBit_xor, tb_bm1 (by omega), hse] at this
    simpa using this
  · intro h e he
    rw [Nat.testBit_and, Nat.testBit_xor, tb_bm1 (by omega)]
    cases hse : s.testBit e
    · rfl
    · rw [h e he hse]; rfl
theorem tb_or_lt {a b : Nat} (ha : a < 1024) (hb : b < 1024) : a ||| b < 1024 := Nat.or_lt_two_pow (n := 10) ha hb
theorem tb_or_b {s e i : Nat} : (s ||| 2 ^ e).testBit i = (s.testBit i || decide (e = i)) := by
  rw [Nat.testBit_or, Nat.testBit_two_pow]
/-- the number of a set -/
def tb_mk (S : Nat → Bool) : Nat → Nat
  | 0 => 0
  | k + 1 => if S k = true then tb_mk S k ||| 2 ^ k else tb_mk S k
theorem tb_mk_b (S : Nat → Bool) : ∀ k i, (tb_mk S k).testBit i = (S i && decide (i < k)) := by
  intro k
  induction k with
  | zero => intro i; rw [tb_mk, Nat.zero_testBit, decide_eq_false (by omega), Bool.and_false]
  | succ k ih =>
    intro i
    rw [tb_mk]
    by_cases h : S k = true
    · rw [if_pos h, tb_or_b, ih]
      by_cases hik : k = i
      · subst hik; simp [h]
      · have : (i < k) ↔ (i < k + 1) := by omega
        simp [hik, this]
    · rw [if_neg h, ih]
      by_cases hik : k = i
      · subst hik; simp [h]
      · have : (i < k) ↔ (i < k + 1) := by omega
        simp [this]
theorem tb_mk_lt (S : Nat → Bool) : ∀ k, k ≤ 10 → tb_mk S k < 1024 := by
  intro k
  induction k with
  | zero => intro _; show 0 < 1024; decide
  | succ k ih =>
    intro hk
    rw [tb_mk]
    by_cases h : S k = true
    · rw [if_pos h]; exact tb_or_lt (ih (by omega)) (tb_pow (by omega))
    · rw [if_neg h]; exact ih (by omega)
end
section
/-! ===== sets as Bool functions; a closure on the ten edges ===== -/
def st_ins (S : Nat → Bool) (e : Nat) : Nat → Bool := fun x => S x || decide (x = e)
def st_del (S : Nat → Bool) (e : Nat) : Nat → Bool := fun x => S x && !decide (x = e)
def st_lo (S : Nat → Bool) (o : Nat → Nat) (e : Nat) : Nat → Bool := fun x => S x && decide (o x < o e)
theorem st_ins_t {S : Nat → Bool} {e x : Nat} : st_ins S e x = true ↔ S x = true ∨ x = e := by simp [st_ins]
theorem st_del_t {S : Nat → Bool} {e x : Nat} : st_del S e x = true ↔ S x = true ∧ x ≠ e := by simp [st_del]
theorem st_lo_t {S : Nat → Bool} {o : Nat → Nat} {e x : Nat} : st_lo S o e x = true ↔ S x = true ∧ o x < o e := by simp [st_lo]
def st_sub (S T : Nat → Bool) : Prop := ∀ e, e < 10 → S e = true → T e = true
def mt_ax (cl : (Nat → Bool) → Nat → Prop) : Prop :=
  (∀ S T : Nat → Bool, (∀ e, e < 10 → S e = true → cl T e) → ∀ e, cl S e → cl T e) ∧
  (∀ (S : Nat → Bool) (e : Nat), e < 10 → S e = true → cl S e) ∧
  (∀ (S : Nat → Bool) (e g : Nat), e < 10 → g < 10 → cl (st_ins S g) e → ¬ cl S e → cl (st_ins S e) g)
def mt_ind (cl : (Nat → Bool) → Nat → Prop) (S : Nat → Bool) : Prop := ∀ e, e < 10 → S e = true → ¬ cl (st_del S e) e
def mt_bas (cl : (Nat → Bool) → Nat → Prop) (P T : Nat → Bool) : Prop :=
  st_sub T P ∧ mt_ind cl T ∧ (∀ e, e < 10 → P e = true → cl T e)
section
variable {cl : (Nat → Bool) → Nat → Prop}
theorem mt_mono (ax : mt_ax cl) {S T : Nat → Bool} (h : st_sub S T) {e : Nat} (hc : cl S e) : cl T e :=
  ax.1 S T (fun x hx hs => ax.2.1 T x hx (h x hx hs)) e hc
theorem mt_find (ax : mt_ax cl) {K0 T : Nat → Bool} (h0 : st_sub K0 T) {e : Nat} (hc : cl T e) (hn : ¬ cl K0 e) :
    ∃ (K : Nat → Bool) (y : Nat), y < 10 ∧ T y = true ∧ K0 y = false ∧ K y = false ∧ st_sub K T ∧ cl (st_ins K y) e ∧ ¬ cl K e := by
  have key : ∀ k, k ≤ 10 → cl (fun x => K0 x || (T x && decide (x < k))) e →
      ∃ (K : Nat → Bool) (y : Nat), y < 10 ∧ T y = true ∧ K0 y = false ∧ K y = false ∧ st_sub K T ∧ cl (st_ins K y) e ∧ ¬ cl K e := by
    intro k
    induction k with
    | zero =>
      intro _ h
      exact absurd (mt_mono ax (fun x _ hx => by simpa using hx) h) hn
    | succ k ih =>
      intro hk h
      by_cases hq : cl (fun x => K0 x || (T x && decide (x < k))) e
      · exact ih (by omega) hq
      · by_cases hT : T k = true ∧ K0 k = false
        · refine ⟨_, k, by omega, hT.1, hT.2, ?_, ?_, ?_, hq⟩
          · simp [hT.2]
          · intro x hx' hx
            simp at hx
            rcases hx with hx | hx
            · exact h0 x hx' hx
            · exact hx.1
          · refine mt_mono ax ?_ h
            intro x _ hx
            rw [st_ins_t]
            simp at hx ⊢
            rcases hx with hx | hx
            · exact Or.inl (Or.inl hx)
            · by_cases hxk : x = k
              · exact Or.inr hxk
              · exact Or.inl (Or.inr ⟨hx.1, by omega⟩)
        · exfalso
          apply hq
          refine mt_mono ax ?_ h
          intro x _ hx
          simp at hx ⊢
          rcases hx with hx | ⟨hx, hl⟩
          · exact Or.inl hx
          · by_cases hxk : x = k
            · subst hxk
              left
              cases hb : K0 x
              · exact absurd ⟨hx, hb⟩ hT
              · rfl
            · exact Or.inr ⟨hx, by omega⟩
  exact key 10 (Nat.le_refl _) (mt_mono ax (fun x hx h => by simp [h, hx]) hc)
theorem mt_ind_sub (ax : mt_ax cl) {S T : Nat → Bool} (h : st_sub S T) (hT : mt_ind cl T) : mt_ind cl S := by
  intro e he hs hc
  refine hT e he (h e he hs) (mt_mono ax ?_ hc)
  intro x hx hd
  rw [st_del_t] at hd ⊢
  exact ⟨h x hx hd.1, hd.2⟩
theorem mt_ind_ins (ax : mt_ax cl) {S : Nat → Bool} (hS : mt_ind cl S) {e : Nat} (he : e < 10) (hn : ¬ cl S e) : mt_ind cl (st_ins S e) := by
  intro x hx hm hc
  by_cases hxe : x = e
  · subst hxe
    apply hn
    refine mt_mono ax ?_ hc
    intro y _ hy
    rw [st_del_t, st_ins_t] at hy
    rcases hy with ⟨hy | hy, hne⟩
    · exact hy
    · exact absurd hy hne
  · rw [st_ins_t] at hm
    have hSx : S x = true := by
      rcases hm with h | h
      · exact h
      · exact absurd h hxe
    have h1 : cl (st_ins (st_del S x) e) x := by
      refine mt_mono ax ?_ hc
      intro y _ hy
      rw [st_del_t, st_ins_t] at hy
      rw [st_ins_t, st_del_t]
      rcases hy with ⟨hy | hy, hne⟩
      · exact Or.inl ⟨hy, hne⟩
      · exact Or.inr hy
    have h2 := ax.2.2 _ x e hx he h1 (hS x hx hSx)
    apply hn
    refine mt_mono ax ?_ h2
    intro y _ hy
    rw [st_ins_t, st_del_t] at hy
    rcases hy with hy | hy
    · exact hy.1
    · rw [hy]; exact hSx
theorem mt_seq (ax : mt_ax cl) {S : Nat → Bool} {o : Nat → Nat} {N : Nat} (hb : ∀ e, e < 10 → o e < N)
    (hi : ∀ e g, e < 10 → g < 10 → o e = o g → e = g) (h : ∀ e, e < 10 → S e = true → ¬ cl (st_lo S o e) e) : mt_ind cl S := by
  have key : ∀ n, mt_ind cl (fun x => S x && decide (o x < n)) := by
    intro n
    induction n with
    | zero =>
      intro e _ hs
      simp at hs
    | succ n ih =>
      by_cases hx : ∃ e, e < 10 ∧ S e = true ∧ o e = n
      · obtain ⟨e, he, hs, ho⟩ := hx
        refine mt_ind_sub ax ?_ (mt_ind_ins ax ih he ?_)
        · intro x hx hm
          simp at hm
          rw [st_ins_t]
          by_cases hxn : o x = n
          · exact Or.inr (hi x e hx he (by omega))
          · left
            simp
            exact ⟨hm.1, by omega⟩
        · intro hc
          apply h e he hs
          refine mt_mono ax ?_ hc
          intro x _ hm
          simp at hm
          rw [st_lo_t]
          exact ⟨hm.1, by omega⟩
      · refine mt_ind_sub ax ?_ ih
        intro x hx' hm
        simp at hm ⊢
        refine ⟨hm.1, ?_⟩
        by_cases hxn : o x = n
        · exact absurd ⟨x, hx', hm.1, hxn⟩ hx
        · omega
  refine mt_ind_sub ax ?_ (key N)
  intro x hx hs
  simp
  exact ⟨hs, hb x hx⟩
theorem mt_seq' (ax : mt_ax cl) {S : Nat → Bool} {o : Nat → Nat} (h : mt_ind cl S) {e : Nat} (he : e < 10) (hs : S e = true) : ¬ cl (st_lo S o e) e := by
  intro hc
  apply h e he hs
  refine mt_mono ax ?_ hc
  intro x _ hm
  rw [st_lo_t] at hm
  rw [st_del_t]
  refine ⟨hm.1, ?_⟩
  intro hxe
  subst hxe
  omega
/-- the greedy set of P by the order o -/
def mt_gr (cl : (Nat → Bool) → Nat → Prop) (P : Nat → Bool) (o : Nat → Nat) (G : Nat → Bool) : Prop :=
  ∀ e, e < 10 → (G e = true ↔ P e = true ∧ ¬ cl (st_lo P o e) e)
theorem mt_gr_bas (ax : mt_ax cl) {P G : Nat → Bool} {o : Nat → Nat} {N : Nat} (hb : ∀ e, e < 10 → o e < N)
    (hi : ∀ e g, e < 10 → g < 10 → o e = o g → e = g) (hG : mt_gr cl P o G) : mt_bas cl P G := by
  have hsub : st_sub G P := fun e he hg => ((hG e he).mp hg).1
  refine ⟨hsub, mt_seq ax hb hi ?_, ?_⟩
  · intro e he hg hc
    apply ((hG e he).mp hg).2
    refine mt_mono ax ?_ hc
    intro x hx hm
    rw [st_lo_t] at hm ⊢
    exact ⟨hsub x hx hm.1, hm.2⟩
  · have key : ∀ n e, e < 10 → o e < n → P e = true → cl G e := by
      intro n
      induction n with
      | zero => intro e _ h; omega
      | succ n ih =>
        intro e he hn hp
        by_cases hg : G e = true
        · exact ax.2.1 G e he hg
        · have hc : cl (st_lo P o e) e := by
            refine Classical.byContradiction fun hc => ?_
            exact hg ((hG e he).mpr ⟨hp, hc⟩)
          refine ax.1 _ _ ?_ e hc
          intro x hx hm
          rw [st_lo_t] at hm
          exact ih x hx (by omega) hm.1
    intro e he hp
    exact key N e he (hb e he) hp
theorem mt_swap (ax : mt_ax cl) {P G T : Nat → Bool} {o : Nat → Nat}
    (hi : ∀ e g, e < 10 → g < 10 → o e = o g → e = g) (hG : mt_gr cl P o G) (hT : mt_bas cl P T) {e : Nat} (he : e < 10) (hg : G e = true) (ht : T e = false) :
    ∃ y, y < 10 ∧ T y = true ∧ o e < o y ∧ mt_bas cl P (st_ins (st_del T y) e) := by
  have hge := (hG e he).mp hg
  have hn : ¬ cl (st_lo T o e) e := by
    intro hc
    apply hge.2
    refine mt_mono ax ?_ hc
    intro x hx hm
    rw [st_lo_t] at hm ⊢
    exact ⟨hT.1 x hx hm.1, hm.2⟩
  have h0 : st_sub (st_lo T o e) T := fun x _ hm => (st_lo_t.mp hm).1
  obtain ⟨K, y, hy, hTy, hK0, hKy, hKT, hce, hnK⟩ := mt_find ax h0 (hT.2.2 e he hge.1) hn
  have hye : y ≠ e := by
    intro h
    subst h
    rw [hTy] at ht
    exact absurd ht (by decide)
  have ho : o e < o y := by
    have h1 : ¬ o y < o e := by
      intro h
      rw [st_lo_t.mpr ⟨hTy, h⟩] at hK0
      exact absurd hK0 (by decide)
    have h2 : o y ≠ o e := fun h => hye (hi y e hy he h)
    omega
  have hx := ax.2.2 K e y he hy hce hnK
  have hKd : st_sub K (st_del T y) := by
    intro x hx hk
    rw [st_del_t]
    refine ⟨hKT x hx hk, ?_⟩
    intro h
    subst h
    rw [hk] at hKy
    exact absurd hKy (by decide)
  have hnd : ¬ cl (st_del T y) e := by
    intro hc
    apply hT.2.1 y hy hTy
    refine ax.1 _ _ ?_ y hx
    intro x hx hm
    rw [st_ins_t] at hm
    rcases hm with hm | hm
    · exact ax.2.1 _ x hx (hKd x hx hm)
    · rw [hm]; exact hc
  have hds : st_sub (st_del T y) T := fun x _ hm => (st_del_t.mp hm).1
  refine ⟨y, hy, hTy, ho, ?_, mt_ind_ins ax (mt_ind_sub ax hds hT.2.1) he hnd, ?_⟩
  · intro x hx hm
    rw [st_ins_t] at hm
    rcases hm with hm | hm
    · exact hT.1 x hx (hds x hx hm)
    · rw [hm]; exact hge.1
  · intro p hp hPp
    refine ax.1 T _ ?_ p (hT.2.2 p hp hPp)
    intro t htl htt
    by_cases h : t = y
    · rw [h]
      refine mt_mono ax ?_ hx
      intro x hx hm
      rw [st_ins_t] at hm ⊢
      rcases hm with hm | hm
      · exact Or.inl (hKd x hx hm)
      · exact Or.inr hm
    · exact ax.2.1 _ t htl (st_ins_t.mpr (Or.inl (st_del_t.mpr ⟨htt, h⟩)))
theorem mt_same (ax : mt_ax cl) {P G T : Nat → Bool} (hG : mt_bas cl P G) (hT : mt_bas cl P T) (h : st_sub G T) : ∀ e, e < 10 → T e = G e := by
  intro e he
  cases hg : G e
  · cases ht : T e
    · rfl
    · exfalso
      apply hT.2.1 e he ht
      refine mt_mono ax ?_ (hG.2.2 e he (hT.1 e he ht))
      intro x hx hm
      rw [st_del_t]
      refine ⟨h x hx hm, ?_⟩
      intro hxe
      subst hxe
      rw [hg] at hm
      exact absurd hm (by decide)
  · exact h e he hg
end
end
