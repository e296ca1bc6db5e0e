/-! rows pasted from kit/rows (PURE-ROWS, BITS) -/
theorem pk_us {f : Nat → Int32} {k : Nat} {x : Int32} : upd f k x k = x := if_pos rfl
theorem pk_un {f : Nat → Int32} {k j : Nat} {x : Int32} (h : j ≠ k) : upd f k x j = f j := if_neg h
theorem pk_sub {a b : Nat} (h : b ≤ a) : nI a - nI b = nI (a - b) := by
  obtain ⟨c, rfl⟩ : ∃ c, a = c + b := ⟨a - b, by omega⟩
  rw [← nI_add, Int32.add_sub_cancel, Nat.add_sub_cancel]
theorem pk_m1 (n : Nat) : nI (n + 1) + (-1) = nI n := by
  rw [← nI_1, Int32.add_assoc, show (1 : Int32) + (-1) = 0 from rfl, Int32.add_zero]
theorem pk_mul (a b : Nat) : nI a * nI b = nI (a * b) := (Int32.ofNat_mul a b).symm
theorem pk_div {a d : Nat} (ha : a < 2 ^ 31) (h0 : 0 < d) (hd : d < 2 ^ 31) : nI a / nI d = nI (a / d) := by
  apply Int32.toInt_inj.mp
  rw [lg_idiv_nonneg (by rw [nI_toInt ha]; omega) (by rw [nI_toInt hd]; omega), nI_toInt ha, nI_toInt hd, nI_toInt (Nat.lt_of_le_of_lt (Nat.div_le_self a d) ha)]
  first | rfl | exact (Int.natCast_ediv _ _).symm
theorem pk_rem {a d : Nat} (ha : a < 2 ^ 31) (h0 : 0 < d) (hd : d < 2 ^ 31) : nI a - nI a / nI d * nI d = nI (a % d) := by
  rw [pk_div ha h0 hd, pk_mul, pk_sub (Nat.div_mul_le_self a d)]
  exact congrArg nI (by have := Nat.div_add_mod' a d; omega)
theorem pk_ix (x : Int32) {n : Nat} (hn : n < 2 ^ 31) : x < 0 ∨ nI n ≤ x ∨ ∃ j : Nat, j < n ∧ x = nI j := by
  by_cases h : x < 0
  · exact Or.inl h
  · obtain ⟨j, hj, rfl⟩ := nI_of h
    by_cases h2 : j < n
    · exact Or.inr (Or.inr ⟨j, h2, rfl⟩)
    · exact Or.inr (Or.inl (nI_le (by omega) hj))
theorem pk_le {x y : Int32} {A B : Prop} (a b : Nat) (f : a ≤ b → A) (g : b < a → B) (hx : x = nI a := by rfl) (hy : y = nI b := by rfl) (ha : a < 2 ^ 31 := by omega) (hb : b < 2 ^ 31 := by omega) : (x ≤ y → A) ∧ (¬ x ≤ y → B) := by
  subst hx hy
  rw [nI_leI ha hb]
  exact ⟨f, fun z => g (by omega)⟩
theorem pk_lt {x y : Int32} {A B : Prop} (a b : Nat) (f : a < b → A) (g : b ≤ a → B) (hx : x = nI a := by rfl) (hy : y = nI b := by rfl) (ha : a < 2 ^ 31 := by omega) (hb : b < 2 ^ 31 := by omega) : (x < y → A) ∧ (¬ x < y → B) := by
  subst hx hy
  rw [nI_ltI ha hb]
  exact ⟨f, fun z => g (by omega)⟩
theorem pk_eq {x y : Int32} {A B : Prop} (a b : Nat) (f : a = b → A) (g : a ≠ b → B) (hx : x = nI a := by rfl) (hy : y = nI b := by rfl) (ha : a < 2 ^ 31 := by omega) (hb : b < 2 ^ 31 := by omega) : (x = y → A) ∧ (¬ x = y → B) := by
  subst hx hy
  rw [nI_eq ha hb]
  exact ⟨f, g⟩
theorem pk_in {x : Int32} (n N : Nat) (h : n < N) (hx : x = nI n := by rfl) (hN : N < 2 ^ 31 := by omega) : vp_in x N := by
  subst hx
  exact vp_in_nI h hN
theorem pk_cl {x : Int32} (n : Nat) (hx : x = nI n := by rfl) (h : n < 2 ^ 31 := by omega) : x.toNatClampNeg = n := by
  subst hx
  exact nI_clamp h
theorem pk_tn {n : Nat} (h : n < 2 ^ 32) : (nI n).toBitVec.toNat = n := Nat.mod_eq_of_lt h
theorem pk_and (x : Int32) {m : Int32} (k : Nat) (hm : m.toBitVec.toNat = 2 ^ k - 1) : x &&& m = nI (x.toBitVec.toNat % 2 ^ k) := by
  apply Int32.toBitVec_inj.mp
  apply BitVec.eq_of_toNat_eq
  rw [Int32.toBitVec_and, BitVec.toNat_and, hm, Nat.and_two_pow_sub_one_eq_mod]
  show _ = (BitVec.ofNat 32 _).toNat
  rw [BitVec.toNat_ofNat]
  exact (Nat.mod_eq_of_lt (Nat.lt_of_le_of_lt (Nat.mod_le _ _) x.toBitVec.isLt)).symm
theorem pk_andN {n : Nat} (h : n < 2 ^ 32) {m : Int32} (k : Nat) (hm : m.toBitVec.toNat = 2 ^ k - 1) : nI n &&& m = nI (n % 2 ^ k) := by
  rw [pk_and _ k hm, pk_tn h]
theorem pk_shl (a s : Int32) (k : Nat) (hs : (s.toBitVec.smod 32).toNat = k) : (a <<< s).toBitVec.toNat = a.toBitVec.toNat * 2 ^ k % 2 ^ 32 := by
  show (a.toBitVec <<< (s.toBitVec.smod 32).toNat).toNat = _
  rw [hs, BitVec.toNat_shiftLeft, Nat.shiftLeft_eq]
theorem pk_shlN {n : Nat} (s : Int32) (k : Nat) (hs : (s.toBitVec.smod 32).toNat = k) (h : n * 2 ^ k < 2 ^ 32) : nI n <<< s = nI (n * 2 ^ k) := by
  apply Int32.toBitVec_inj.mp
  apply BitVec.eq_of_toNat_eq
  have hn : n < 2 ^ 32 := Nat.lt_of_le_of_lt (Nat.le_mul_of_pos_right n (Nat.two_pow_pos k)) h
  rw [pk_shl _ _ k hs, pk_tn hn, pk_tn h, Nat.mod_eq_of_lt h]
theorem pk_shr (a s : Int32) (k : Nat) (hs : (s.toBitVec.smod 32).toNat = k) : (a >>> s).toInt = a.toInt >>> k := by
  show (a.toBitVec.sshiftRight (s.toBitVec.smod 32).toNat).toInt = _
  rw [hs, BitVec.toInt_sshiftRight]
  rfl
theorem pk_shrN {n : Nat} (h : n < 2 ^ 31) (s : Int32) (k : Nat) (hs : (s.toBitVec.smod 32).toNat = k) : nI n >>> s = nI (n / 2 ^ k) := by
  apply Int32.toInt_inj.mp
  have h2 : n / 2 ^ k ≤ n := Nat.div_le_self _ _
  rw [pk_shr _ _ k hs, nI_toInt h, nI_toInt (by omega), Int.shiftRight_eq_div_pow]
  rfl
theorem pk_loop {σ : Type} (W : Nat → Nat → σ → Prop) (I : Nat → σ → Prop) (e i0 : Nat) (s : σ) (hi : i0 ≤ e) (h0 : I i0 s) (hx : ∀ n s, I e s → W (n + 1) e s)
    (hs : ∀ n i s, i < e → I i s → (∀ s', I (i + 1) s' → W n (i + 1) s') → W (n + 1) i s) : ∃ n, W n i0 s :=
  ⟨e + 1, loop_i W I e hx hs (e + 1) i0 s hi (by omega) h0⟩
theorem pk_loopD {σ : Type} (W : Nat → Nat → σ → Prop) (I : Nat → σ → Prop) (hx : ∀ n s, I 0 s → W (n + 1) 0 s)
    (hs : ∀ n i s, I (i + 1) s → (∀ s', I i s' → W n i s') → W (n + 1) (i + 1) s) : ∀ (e : Nat) (s : σ), I e s → W (e + 1) e s := by
  intro e
  induction e with
  | zero => exact fun s h => hx 0 s h
  | succ e ih => exact fun s h => hs (e + 1) e s h (fun s' h' => ih s' h')
theorem pk_least (P : Nat → Prop) (h : ∃ k, P k) : ∃ k, P k ∧ ∀ j, j < k → ¬ P j := by
  obtain ⟨k, hk⟩ := h
  induction k using Nat.strongRecOn with
  | ind k ih =>
    by_cases e : ∃ j, j < k ∧ P j
    · obtain ⟨j, hj, pj⟩ := e
      exact ih j hj pj
    · exact ⟨k, hk, fun j hj pj => e ⟨j, hj, pj⟩⟩
theorem s_l : ∀ n, n < 32 → ((nI n &&& 31).toBitVec.smod 32).toNat = n := by decide +kernel
theorem nx_and (a b : Nat) : nI a &&& nI b = nI (a &&& b) := by
  apply Int32.toBitVec_inj.1
  show BitVec.ofNat 32 a &&& BitVec.ofNat 32 b = BitVec.ofNat 32 (a &&& b)
  apply BitVec.eq_of_getLsbD_eq
  intro i hi
  simp [hi]
theorem nx_xor (a b : Nat) : nI a ^^^ nI b = nI (a ^^^ b) := by
  apply Int32.toBitVec_inj.1
  show BitVec.ofNat 32 a ^^^ BitVec.ofNat 32 b = BitVec.ofNat 32 (a ^^^ b)
  apply BitVec.eq_of_getLsbD_eq
  intro i hi
  simp [hi]
/-! numbers: sets of few members, digits -/
theorem tj_or (a b : Nat) : nI a ||| nI b = nI (a ||| b) := by
  apply Int32.toBitVec_inj.1
  show BitVec.ofNat 32 a ||| BitVec.ofNat 32 b = BitVec.ofNat 32 (a ||| b)
  apply BitVec.eq_of_getLsbD_eq
  intro i hi
  simp [hi]
theorem tj_bitv {s m : Nat} (hs : s < 2 ^ 31) (hm : m < 32) : (nI s >>> (nI m &&& 31)) &&& 1 = nI (s / 2 ^ m % 2) := by
  rw [pk_shrN hs (nI m &&& 31) m (s_l m hm)]
  show nI _ &&& nI 1 = _
  rw [nx_and, Nat.and_one_is_mod]
theorem tj_shl {m : Nat} (hm : m < 31) : (1 : Int32) <<< (nI m &&& 31) = nI (2 ^ m) := by
  have h : 1 * 2 ^ m < 2 ^ 32 := by
    rw [Nat.one_mul]
    exact Nat.pow_lt_pow_right (by decide) (by omega)
  have e := pk_shlN (n := 1) (nI m &&& 31) m (s_l m (by omega)) h
  rw [Nat.one_mul] at e
  exact e
/-- has: the branch on a bit -/
theorem tj_hasP {s m : Nat} {A B : Prop} (hs : s < 2 ^ 31) (hm : m < 32) (f : s.testBit m = true → A) (g : s.testBit m = false → B) : ((nI s >>> (nI m &&& 31)) &&& 1 = 1 → A) ∧ (¬ (nI s >>> (nI m &&& 31)) &&& 1 = 1 → B) := by
  have h2 : s / 2 ^ m % 2 < 2 := Nat.mod_lt _ (by decide)
  have e : (nI (s / 2 ^ m % 2) = 1) ↔ (s / 2 ^ m % 2 = 1) := nI_eq (b := 1) (by omega) (by decide)
  have t : s.testBit m = decide (s / 2 ^ m % 2 = 1) := Nat.testBit_eq_decide_div_mod_eq
  rw [tj_bitv hs hm, e]
  exact ⟨fun z => f (by rw [t]; exact decide_eq_true z), fun z => g (by rw [t]; exact decide_eq_false z)⟩
/-- a less b, sets below 32 -/
def tj_mi (a b : Nat) : Nat := a &&& (b ^^^ 31)
theorem tj_miI : ∀ a, a < 32 → ∀ b, b < 32 → nI a &&& (nI b ^^^ (-1)) = nI (tj_mi a b) := by decide +kernel
theorem tj_mi0 : ∀ a, a < 32 → ∀ b, b < 32 → (tj_mi a b = 0 ↔ ∀ v, v < 5 → a.testBit v = true → b.testBit v = true) := by decide +kernel
theorem tj_mi_lt {a b n : Nat} (h : a < n) : tj_mi a b < n := Nat.lt_of_le_of_lt Nat.and_le_left h
theorem tj_mi_le {a b : Nat} : tj_mi a b ≤ a := Nat.and_le_left
theorem tj_mi_sw (a o b : Nat) : tj_mi (a &&& o) b = tj_mi a b &&& o := by
  unfold tj_mi
  rw [Nat.and_assoc, Nat.and_comm o, ← Nat.and_assoc]
theorem tj_mi_b : ∀ s, s < 16 → ∀ i, i < 4 → ∀ j, j < 4 → ((tj_mi s (2 ^ i)).testBit j = true ↔ (s.testBit j = true ∧ j ≠ i)) := by decide +kernel
def tj_s (s : Nat) : Nat := s % 2 + s / 2 % 2 + s / 4 % 2 + s / 8 % 2
theorem tj_mi_s : ∀ s, s < 16 → ∀ i, i < 4 → s.testBit i = true → tj_s (tj_mi s (2 ^ i)) + 1 = tj_s s := by decide +kernel
theorem tj_s_0 : ∀ s, s < 16 → (tj_s s = 0 ↔ s = 0) := by decide +kernel
theorem tj_s_some : ∀ s, s < 16 → s ≠ 0 → ∃ i, i < 4 ∧ s.testBit i = true := by decide +kernel
theorem tj_s_le : ∀ s, s < 16 → tj_s s ≤ 4 := by decide +kernel
theorem tj_tb_lt {s n i : Nat} (h : s < 2 ^ n) (hi : s.testBit i = true) : i < n := by
  rcases Nat.lt_or_ge i n with z | z
  · exact z
  · rw [Nat.testBit_lt_two_pow (Nat.lt_of_lt_of_le h (Nat.pow_le_pow_right (by decide) z))] at hi
    exact absurd hi (by decide)
/-! columns, digits, rows -/
def tj_w (r : Nat) : Nat := if r = 2 then 3 else 2
def tj_n (r : Nat) : Nat := if r = 2 then 125 else 25
def tj_o (r : Nat) : Nat := if r = 2 then 31 else 6
def tj_g (code v : Nat) : Nat := code / 5 ^ (4 - v) % 5
def tj_c (r vs c : Nat) : Nat := vs / 5 ^ (tj_w r - 1 - c) % 5
theorem tj_g_lt (code v : Nat) : tj_g code v < 5 := Nat.mod_lt _ (by decide)
theorem tj_c_lt (r vs c : Nat) : tj_c r vs c < 5 := Nat.mod_lt _ (by decide)
theorem tj_on (r : Nat) : (r = 2 ∧ tj_w r = 3 ∧ tj_n r = 125 ∧ tj_o r = 31) ∨ (r ≠ 2 ∧ tj_w r = 2 ∧ tj_n r = 25 ∧ tj_o r = 6) := by
  by_cases h : r = 2
  · subst h; exact Or.inl ⟨rfl, rfl, rfl, rfl⟩
  · exact Or.inr ⟨h, if_neg h, if_neg h, if_neg h⟩
theorem tj_w_2 (r : Nat) : tj_w r = 2 ∨ tj_w r = 3 := by
  rcases tj_on r with h | h <;> omega
def tj_rp (r vs : Nat) (g : Nat → Nat) : Nat → Nat
  | 0 => 0
  | c + 1 => 5 * tj_rp r vs g c + g (tj_c r vs c)
def tj_row (r vs : Nat) (g : Nat → Nat) : Nat := tj_rp r vs g (tj_w r)
theorem tj_row2 (vs : Nat) (g : Nat → Nat) : tj_row 2 vs g = 5 * (5 * g (tj_c 2 vs 0) + g (tj_c 2 vs 1)) + g (tj_c 2 vs 2) := by
  show 5 * (5 * (5 * 0 + g (tj_c 2 vs 0)) + g (tj_c 2 vs 1)) + g (tj_c 2 vs 2) = _
  rw [Nat.mul_zero, Nat.zero_add]
theorem tj_rown {r : Nat} (h : r ≠ 2) (vs : Nat) (g : Nat → Nat) : tj_row r vs g = 5 * g (tj_c r vs 0) + g (tj_c r vs 1) := by
  have e : tj_w r = 2 := if_neg h
  unfold tj_row
  rw [e]
  show 5 * (5 * 0 + g (tj_c r vs 0)) + g (tj_c r vs 1) = _
  rw [Nat.mul_zero, Nat.zero_add]
theorem tj_rp_lt {r vs : Nat} {g : Nat → Nat} (h : ∀ v, v < 5 → g v < 5) : ∀ c, tj_rp r vs g c < 5 ^ c := by
  intro c
  induction c with
  | zero => exact Nat.one_pos
  | succ c ih =>
    have := h _ (tj_c_lt r vs c)
    unfold tj_rp
    rw [Nat.pow_succ]
    omega
theorem tj_n_w (r : Nat) : 5 ^ tj_w r = tj_n r := by
  rcases tj_on r with ⟨_, a, b, _⟩ | ⟨_, a, b, _⟩ <;> rw [a, b]
theorem tj_row_lt {r vs : Nat} {g : Nat → Nat} (h : ∀ v, v < 5 → g v < 5) : tj_row r vs g < tj_n r := by
  rw [← tj_n_w]
  exact tj_rp_lt h _
theorem tj_rp_eq {r vs : Nat} {g g' : Nat → Nat} : ∀ c, (∀ i, i < c → g (tj_c r vs i) = g' (tj_c r vs i)) → tj_rp r vs g c = tj_rp r vs g' c := by
  intro c
  induction c with
  | zero => intro _; rfl
  | succ c ih =>
    intro h
    unfold tj_rp
    rw [ih (fun i hi => h i (by omega)), h c (by omega)]
theorem tj_row_eq {r vs : Nat} {g g' : Nat → Nat} (h : ∀ c, c < tj_w r → g (tj_c r vs c) = g' (tj_c r vs c)) : tj_row r vs g = tj_row r vs g' := tj_rp_eq _ h
theorem tj_c20 (x : Nat) : tj_c 2 x 0 = x / 25 % 5 := rfl
theorem tj_c21 (x : Nat) : tj_c 2 x 1 = x / 5 % 5 := rfl
theorem tj_c22 (x : Nat) : tj_c 2 x 2 = x % 5 := by
  show x / 1 % 5 = x % 5
  rw [Nat.div_one]
theorem tj_cn0 {r : Nat} (h : r ≠ 2) (x : Nat) : tj_c r x 0 = x / 5 % 5 := by
  have ew : tj_w r = 2 := if_neg h
  simp [tj_c, ew]
theorem tj_cn1 {r : Nat} (h : r ≠ 2) (x : Nat) : tj_c r x 1 = x % 5 := by
  have ew : tj_w r = 2 := if_neg h
  simp [tj_c, ew]
/-- a column of the row that an atom becomes -/
theorem tj_c_row {r vs : Nat} {g : Nat → Nat} (h : ∀ v, v < 5 → g v < 5) {c : Nat} (hc : c < tj_w r) : tj_c r (tj_row r vs g) c = g (tj_c r vs c) := by
  have h0 := h _ (tj_c_lt r vs 0)
  have h1 := h _ (tj_c_lt r vs 1)
  have h2 := h _ (tj_c_lt r vs 2)
  by_cases e : r = 2
  · subst e
    rw [tj_row2]
    have hc' : c < 3 := hc
    have : c = 0 ∨ c = 1 ∨ c = 2 := by omega
    rcases this with rfl | rfl | rfl
    · rw [tj_c20 (5 * (5 * g (tj_c 2 vs 0) + g (tj_c 2 vs 1)) + g (tj_c 2 vs 2))]
      omega
    · rw [tj_c21 (5 * (5 * g (tj_c 2 vs 0) + g (tj_c 2 vs 1)) + g (tj_c 2 vs 2))]
      omega
    · rw [tj_c22 (5 * (5 * g (tj_c 2 vs 0) + g (tj_c 2 vs 1)) + g (tj_c 2 vs 2))]
      omega
  · rw [tj_rown e]
    have ew : tj_w r = 2 := if_neg e
    rw [ew] at hc
    have : c = 0 ∨ c = 1 := by omega
    rcases this with rfl | rfl
    · rw [tj_cn0 e (5 * g (tj_c r vs 0) + g (tj_c r vs 1))]
      omega
    · rw [tj_cn1 e (5 * g (tj_c r vs 0) + g (tj_c r vs 1))]
      omega
/-! the set of an atom, of a set of atoms -/
def tj_sp (r vs : Nat) : Nat → Nat
  | 0 => 0
  | c + 1 => tj_sp r vs c ||| 2 ^ tj_c r vs c
def tj_so (r vs : Nat) : Nat := tj_sp r vs (tj_w r)
theorem tj_sp_b {r vs v : Nat} : ∀ {n : Nat}, (tj_sp r vs n).testBit v = true ↔ ∃ c, c < n ∧ tj_c r vs c = v := by
  intro n
  induction n with
  | zero => exact ⟨fun z => absurd z (by simp [tj_sp]), fun ⟨c, hc, _⟩ => by omega⟩
  | succ n ih =>
    unfold tj_sp
    rw [Nat.testBit_or, Bool.or_eq_true, ih, Nat.testBit_two_pow, decide_eq_true_eq]
    constructor
    · rintro (⟨c, hc, e⟩ | e)
      · exact ⟨c, by omega, e⟩
      · exact ⟨n, by omega, e⟩
    · rintro ⟨c, hc, e⟩
      by_cases z : c = n
      · subst z; exact Or.inr e
      · exact Or.inl ⟨c, by omega, e⟩
theorem tj_sp_lt {r vs : Nat} : ∀ n, tj_sp r vs n < 32 := by
  intro n
  induction n with
  | zero => exact Nat.zero_lt_of_lt (show 0 < 32 by decide)
  | succ n ih => exact Nat.or_lt_two_pow (n := 5) ih (Nat.pow_lt_pow_right (by decide) (tj_c_lt r vs n))
def tj_vo (f : Nat → Nat) (s : Nat) : Nat → Nat
  | 0 => 0
  | n + 1 => if s.testBit n = true then tj_vo f s n ||| f n else tj_vo f s n
theorem tj_vo_b {f : Nat → Nat} {s v : Nat} : ∀ {n : Nat}, (tj_vo f s n).testBit v = true ↔ ∃ i, i < n ∧ s.testBit i = true ∧ (f i).testBit v = true := by
  intro n
  induction n with
  | zero => exact ⟨fun z => absurd z (by simp [tj_vo]), fun ⟨c, hc, _⟩ => by omega⟩
  | succ n ih =>
    unfold tj_vo
    split
    · rename_i hs
      rw [Nat.testBit_or, Bool.or_eq_true, ih]
      constructor
      · rintro (⟨c, hc, e⟩ | e)
        · exact ⟨c, by omega, e⟩
        · exact ⟨n, by omega, hs, e⟩
      · rintro ⟨c, hc, e, e'⟩
        by_cases z : c = n
        · subst z; exact Or.inr e'
        · exact Or.inl ⟨c, by omega, e, e'⟩
    · rename_i hs
      rw [ih]
      constructor
      · rintro ⟨c, hc, e⟩
        exact ⟨c, by omega, e⟩
      · rintro ⟨c, hc, e, e'⟩
        by_cases z : c = n
        · subst z; exact absurd e hs
        · exact ⟨c, by omega, e, e'⟩
theorem tj_vo_lt {f : Nat → Nat} {s : Nat} (h : ∀ i, f i < 32) : ∀ n, tj_vo f s n < 32 := by
  intro n
  induction n with
  | zero => exact Nat.zero_lt_of_lt (show 0 < 32 by decide)
  | succ n ih =>
    unfold tj_vo
    split
    · exact Nat.or_lt_two_pow (n := 5) ih (h n)
    · exact ih
theorem tj_vo_up {f : Nat → Nat} {s n : Nat} (h : s < 2 ^ n) : ∀ m, tj_vo f s (n + m) = tj_vo f s n := by
  intro m
  induction m with
  | zero => rfl
  | succ m ih =>
    show (if s.testBit (n + m) = true then tj_vo f s (n + m) ||| f (n + m) else tj_vo f s (n + m)) = _
    rw [if_neg (fun z => absurd (tj_tb_lt h z) (by omega)), ih]
theorem tj_vo_4 {f : Nat → Nat} {s n : Nat} (h : s < 2 ^ n) (hn : n ≤ 4) : tj_vo f s 4 = tj_vo f s n := by
  have := tj_vo_up (f := f) h (4 - n)
  rw [show n + (4 - n) = 4 by omega] at this
  exact this
theorem tj_vo_1 {f : Nat → Nat} {i : Nat} (hi : i < 4) : tj_vo f (2 ^ i) 4 = f i := by
  have : i = 0 ∨ i = 1 ∨ i = 2 ∨ i = 3 := by omega
  rcases this with rfl | rfl | rfl | rfl <;> simp [tj_vo, Nat.testBit_eq_decide_div_mod_eq]
