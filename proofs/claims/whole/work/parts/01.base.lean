theorem pk_us {f : Nat → Int32} {k : Nat} {x : Int32} : upd f k x k = x := if_pos rfl
theorem pk_un {f : Nat → Int32} {k j : Nat} {x : Int32} (h : j ≠ k) : upd f k x j = f j := if_neg h
theorem pk_sub {a b : Nat} (h : b ≤ a) : nI a - nI b = nI (a - b) := by
  obtain ⟨c, rfl⟩ : ∃ c, a = c + b := ⟨a - b, by omega⟩
  rw [← nI_add, Int32.add_sub_cancel, Nat.add_sub_cancel]
theorem pk_m1 (n : Nat) : nI (n + 1) + (-1) = nI n := by
  rw [← nI_1, Int32.add_assoc, show (1 : Int32) + (-1) = 0 from rfl, Int32.add_zero]
theorem pk_ix (x : Int32) {n : Nat} (hn : n < 2 ^ 31) : x < 0 ∨ nI n ≤ x ∨ ∃ j : Nat, j < n ∧ x = nI j := by
  by_cases h : x < 0
  · exact Or.inl h
  · obtain ⟨j, hj, rfl⟩ := nI_of h
    by_cases h2 : j < n
    · exact Or.inr (Or.inr ⟨j, h2, rfl⟩)
    · exact Or.inr (Or.inl (nI_le (by omega) hj))
theorem pk_le {x y : Int32} {A B : Prop} (a b : Nat) (f : a ≤ b → A) (g : b < a → B) (hx : x = nI a := by rfl) (hy : y = nI b := by rfl) (ha : a < 2 ^ 31 := by omega) (hb : b < 2 ^ 31 := by omega) : (x ≤ y → A) ∧ (¬ x ≤ y → B) := by
  subst hx hy
  rw [nI_leI ha hb]
  exact ⟨f, fun z => g (by omega)⟩
theorem pk_lt {x y : Int32} {A B : Prop} (a b : Nat) (f : a < b → A) (g : b ≤ a → B) (hx : x = nI a := by rfl) (hy : y = nI b := by rfl) (ha : a < 2 ^ 31 := by omega) (hb : b < 2 ^ 31 := by omega) : (x < y → A) ∧ (¬ x < y → B) := by
  subst hx hy
  rw [nI_ltI ha hb]
  exact ⟨f, fun z => g (by omega)⟩
theorem pk_eq {x y : Int32} {A B : Prop} (a b : Nat) (f : a = b → A) (g : a ≠ b → B) (hx : x = nI a := by rfl) (hy : y = nI b := by rfl) (ha : a < 2 ^ 31 := by omega) (hb : b < 2 ^ 31 := by omega) : (x = y → A) ∧ (¬ x = y → B) := by
  subst hx hy
  rw [nI_eq ha hb]
  exact ⟨f, g⟩
theorem pk_in {x : Int32} (n N : Nat) (h : n < N) (hx : x = nI n := by rfl) (hN : N < 2 ^ 31 := by omega) : vp_in x N := by
  subst hx
  exact vp_in_nI h hN
theorem pk_cl {x : Int32} (n : Nat) (hx : x = nI n := by rfl) (h : n < 2 ^ 31 := by omega) : x.toNatClampNeg = n := by
  subst hx
  exact nI_clamp h
theorem pk_tn {n : Nat} (h : n < 2 ^ 32) : (nI n).toBitVec.toNat = n := Nat.mod_eq_of_lt h
theorem pk_and (x : Int32) {m : Int32} (k : Nat) (hm : m.toBitVec.toNat = 2 ^ k - 1) : x &&& m = nI (x.toBitVec.toNat % 2 ^ k) := by
  apply Int32.toBitVec_inj.mp
  apply BitVec.eq_of_toNat_eq
  rw [Int32.toBitVec_and, BitVec.toNat_and, hm, Nat.and_two_pow_sub_one_eq_mod]
  show _ = (BitVec.ofNat 32 _).toNat
  rw [BitVec.toNat_ofNat]
  exact (Nat.mod_eq_of_lt (Nat.lt_of_le_of_lt (Nat.mod_le _ _) x.toBitVec.isLt)).symm
theorem pk_andN {n : Nat} (h : n < 2 ^ 32) {m : Int32} (k : Nat) (hm : m.toBitVec.toNat = 2 ^ k - 1) : nI n &&& m = nI (n % 2 ^ k) := by
  rw [pk_and _ k hm, pk_tn h]
theorem pk_andE (x : Int32) {m : Int32} (k : Nat) (hm : m.toBitVec.toNat = 2 ^ k - 1) : ∃ j : Nat, j < 2 ^ k ∧ x &&& m = nI j := ⟨_, Nat.mod_lt _ (Nat.two_pow_pos k), pk_and x k hm⟩
theorem pk_andIn (x : Int32) {m : Int32} (k : Nat) (hm : m.toBitVec.toNat = 2 ^ k - 1) (hk : k ≤ 30) : vp_in (x &&& m) (2 ^ k) := by
  obtain ⟨j, hj, e⟩ := pk_andE x k hm
  rw [e]
  exact vp_in_nI hj (Nat.lt_of_le_of_lt (Nat.pow_le_pow_right (by decide) hk) (by decide))
theorem pk_shl (a s : Int32) (k : Nat) (hs : (s.toBitVec.smod 32).toNat = k) : (a <<< s).toBitVec.toNat = a.toBitVec.toNat * 2 ^ k % 2 ^ 32 := by
  show (a.toBitVec <<< (s.toBitVec.smod 32).toNat).toNat = _
  rw [hs, BitVec.toNat_shiftLeft, Nat.shiftLeft_eq]
theorem pk_shlN {n : Nat} (s : Int32) (k : Nat) (hs : (s.toBitVec.smod 32).toNat = k) (h : n * 2 ^ k < 2 ^ 32) : nI n <<< s = nI (n * 2 ^ k) := by
  apply Int32.toBitVec_inj.mp
  apply BitVec.eq_of_toNat_eq
  have hn : n < 2 ^ 32 := Nat.lt_of_le_of_lt (Nat.le_mul_of_pos_right n (Nat.two_pow_pos k)) h
  rw [pk_shl _ _ k hs, pk_tn hn, pk_tn h, Nat.mod_eq_of_lt h]
theorem pk_shr (a s : Int32) (k : Nat) (hs : (s.toBitVec.smod 32).toNat = k) : (a >>> s).toInt = a.toInt >>> k := by
  show (a.toBitVec.sshiftRight (s.toBitVec.smod 32).toNat).toInt = _
  rw [hs, BitVec.toInt_sshiftRight]
  rfl
theorem pk_shrN {n : Nat} (h : n < 2 ^ 31) (s : Int32) (k : Nat) (hs : (s.toBitVec.smod 32).toNat = k) : nI n >>> s = nI (n / 2 ^ k) := by
  apply Int32.toInt_inj.mp
  have h2 : n / 2 ^ k ≤ n := Nat.div_le_self _ _
  rw [pk_shr _ _ k hs, nI_toInt h, nI_toInt (by omega), Int.shiftRight_eq_div_pow]
  rfl
theorem s_l : ∀ n, n < 32 → ((nI n &&& 31).toBitVec.smod 32).toNat = n := by decide +kernel
theorem nx_and (a b : Nat) : nI a &&& nI b = nI (a &&& b) := by
  apply Int32.toBitVec_inj.1
  show BitVec.ofNat 32 a &&& BitVec.ofNat 32 b = BitVec.ofNat 32 (a &&& b)
  apply BitVec.eq_of_getLsbD_eq
  intro i hi
  simp [hi]
theorem nx_xor (a b : Nat) : nI a ^^^ nI b = nI (a ^^^ b) := by
  apply Int32.toBitVec_inj.1
  show BitVec.ofNat 32 a ^^^ BitVec.ofNat 32 b = BitVec.ofNat 32 (a ^^^ b)
  apply BitVec.eq_of_getLsbD_eq
  intro i hi
  simp [hi]
/-! ===== sets of edges as numbers below 1024, bit e for edge e ===== -/
def tb_B (b : Bool) : Int32 := if b = true then 1 else 0
theorem tb_or (a b : Nat) : nI a ||| nI b = nI (a ||| b) := by
  apply Int32.toBitVec_inj.1
  show BitVec.ofNat 32 a ||| BitVec.ofNat 32 b = BitVec.ofNat 32 (a ||| b)
  apply BitVec.eq_of_getLsbD_eq
  intro i hi
  simp [hi]
theorem tb_shl : ∀ e, e < 10 → (1 : Int32) <<< (nI e &&& 31) = nI (2 ^ e) := by decide +kernel
theorem tb_hi {s i : Nat} (hs : s < 1024) (hi : 10 ≤ i) : s.testBit i = false :=
  Nat.testBit_lt_two_pow (Nat.lt_of_lt_of_le hs (Nat.pow_le_pow_right (n := 2) (by decide) hi : 2 ^ 10 ≤ 2 ^ i))
theorem tb_ext {s t : Nat} (hs : s < 1024) (ht : t < 1024) (h : ∀ e, e < 10 → s.testBit e = t.testBit e) : s = t := by
  apply Nat.eq_of_testBit_eq
  intro i
  rcases Nat.lt_or_ge i 10 with hi | hi
  · exact h i hi
  · rw [tb_hi hs hi, tb_hi ht hi]
theorem tb_0 {z : Nat} (hz : z < 1024) : nI z = 0 ↔ ∀ e, e < 10 → z.testBit e = false := by
  rw [show (0 : Int32) = nI 0 from rfl, nI_eq (by omega) (by omega)]
  constructor
  · intro h e _
    rw [h, Nat.zero_testBit]
  · intro h
    exact tb_ext hz (by omega) (fun e he => by rw [h e he, Nat.zero_testBit])
theorem tb_pow {e : Nat} (he : e < 10) : 2 ^ e < 1024 := Nat.pow_lt_pow_right (a := 2) (by decide) he
theorem tb_has {s e : Nat} (hs : s < 1024) (he : e < 10) : (nI s &&& ((1 : Int32) <<< (nI e &&& 31))) = 0 ↔ s.testBit e = false := by
  rw [tb_shl e he, nx_and, tb_0 (Nat.lt_of_le_of_lt Nat.and_le_left hs)]
  constructor
  · intro h
    have := h e he
    rw [Nat.testBit_and, Nat.testBit_two_pow_self, Bool.and_true] at this
    exact this
  · intro h i hi
    rw [Nat.testBit_and, Nat.testBit_two_pow]
    by_cases hie : e = i
    · subst hie; rw [h, Bool.false_and]
    · simp [hie]
theorem tb_shr {s e : Nat} (hs : s < 1024) (he : e < 10) : ((nI s >>> (nI e &&& 31)) &&& 1) = tb_B (s.testBit e) := by
  rw [pk_shrN (by omega) _ e (s_l e (by omega)), pk_andN (by have := Nat.div_le_self s (2 ^ e); omega) 1 (by decide), Nat.testBit_eq_decide_div_mod_eq]
  unfold tb_B
  have h2 : s / 2 ^ e % 2 ^ 1 = 0 ∨ s / 2 ^ e % 2 ^ 1 = 1 := by omega
  rcases h2 with h | h
  · rw [h, if_neg (by rw [decide_eq_true_eq]; omega)]; rfl
  · rw [h, if_pos (decide_eq_true (by omega))]; rfl
theorem tb_B1 (b : Bool) : tb_B b = 1 ↔ b = true := by cases b <;> decide
theorem tb_B0 (b : Bool) : tb_B b = 0 ↔ b = false := by cases b <;> decide
theorem tb_Be (a b : Bool) : tb_B a = tb_B b ↔ a = b := by cases a <;> cases b <;> decide
theorem tb_nb (b : Bool) : narrow .boolean (.int (tb_B b)) = .int (tb_B b) := by cases b <;> rfl
theorem tb_vb (b : Bool) : vp_nar .boolean (tb_B b) = tb_B b := by cases b <;> rfl
def tb_cut (p e : Nat) : Nat := p &&& (2 ^ e ^^^ 4294967295)
theorem tb_m1 : (-1 : Int32) = nI 4294967295 := by decide +kernel
theorem tb_bm1 {i : Nat} (hi : i < 32) : (4294967295 : Nat).testBit i = true := by
  rw [show (4294967295 : Nat) = 2 ^ 32 - 1 from rfl, Nat.testBit_two_pow_sub_one]
  exact decide_eq_true hi
theorem tb_cutI {p e : Nat} (he : e < 10) : nI p &&& (((1 : Int32) <<< (nI e &&& 31)) ^^^ (-1)) = nI (tb_cut p e) := by
  rw [tb_shl e he, tb_m1, nx_xor, nx_and, tb_cut]
theorem tb_cut_lt {p e : Nat} (hp : p < 1024) : tb_cut p e < 1024 := Nat.lt_of_le_of_lt Nat.and_le_left hp
theorem tb_cut_b {p e i : Nat} (hi : i < 10) : (tb_cut p e).testBit i = (p.testBit i && !decide (i = e)) := by
  rw [tb_cut, Nat.testBit_and, Nat.testBit_xor, Nat.testBit_two_pow, tb_bm1 (by omega)]
  by_cases h : e = i
  · simp [h]
  · simp [h]
    exact fun _ z => h z.symm
theorem tb_sub {s p : Nat} (hs : s < 1024) : (nI s &&& (nI p ^^^ (-1))) = 0 ↔ ∀ e, e < 10 → s.testBit e = true → p.testBit e = true := by
  rw [tb_m1, nx_xor, nx_and, tb_0 (Nat.lt_of_le_of_lt Nat.and_le_left hs)]
  constructor
  · intro h e he hse
    have := h e he
    rw [Nat.testBit_and, Nat.testBit_xor, tb_bm1 (by omega), hse] at this
    simpa using this
  · intro h e he
    rw [Nat.testBit_and, Nat.testBit_xor, tb_bm1 (by omega)]
    cases hse : s.testBit e
    · rfl
    · rw [h e he hse]; rfl
theorem tb_or_lt {a b : Nat} (ha : a < 1024) (hb : b < 1024) : a ||| b < 1024 := Nat.or_lt_two_pow (n := 10) ha hb
theorem tb_or_b {s e i : Nat} : (s ||| 2 ^ e).testBit i = (s.testBit i || decide (e = i)) := by
  rw [Nat.testBit_or, Nat.testBit_two_pow]
/-- the number of a set -/
def tb_mk (S : Nat → Bool) : Nat → Nat
  | 0 => 0
  | k + 1 => if S k = true then tb_mk S k ||| 2 ^ k else tb_mk S k
theorem tb_mk_b (S : Nat → Bool) : ∀ k i, (tb_mk S k).testBit i = (S i && decide (i < k)) := by
  intro k
  induction k with
  | zero => intro i; rw [tb_mk, Nat.zero_testBit, decide_eq_false (by omega), Bool.and_false]
  | succ k ih =>
    intro i
    rw [tb_mk]
    by_cases h : S k = true
    · rw [if_pos h, tb_or_b, ih]
      by_cases hik : k = i
      · subst hik; simp [h]
      · have : (i < k) ↔ (i < k + 1) := by omega
        simp [hik, this]
    · rw [if_neg h, ih]
      by_cases hik : k = i
      · subst hik; simp [h]
      · have : (i < k) ↔ (i < k + 1) := by omega
        simp [this]
theorem tb_mk_lt (S : Nat → Bool) : ∀ k, k ≤ 10 → tb_mk S k < 1024 := by
  intro k
  induction k with
  | zero => intro _; show 0 < 1024; decide
  | succ k ih =>
    intro hk
    rw [tb_mk]
    by_cases h : S k = true
    · rw [if_pos h]; exact tb_or_lt (ih (by omega)) (tb_pow (by omega))
    · rw [if_neg h]; exact ih (by omega)
