section
/-! rows pasted from kit/rows (PURE-ROWS, BITS) -/
theorem pk_us {f : Nat → Int32} {k : Nat} {x : Int32} : upd f k x k = x := if_pos rfl
theorem pk_un {f : Nat → Int32} {k j : Nat} {x : Int32} (h : j ≠ k) : upd f k x j = f j := if_neg h
theorem pk_sub {a b : Nat} (h : b ≤ a) : nI a - nI b = nI (a - b) := by
  obtain ⟨c, rfl⟩ : ∃ c, a = c + b := ⟨a - b, by omega⟩
  rw [← nI_add, Int32.add_sub_cancel, Nat.add_sub_cancel]
theorem pk_m1 (n : Nat) : nI (n + 1) + (-1) = nI n := by
  rw [← nI_1, Int32.add_assoc, show (1 : Int32) + (-1) = 0 from rfl, Int32.add_zero]
theorem pk_mul (a b : Nat) : nI a * nI b = nI (a * b) := (Int32.ofNat_mul a b).symm
theorem pk_div {a d : Nat} (ha : a < 2 ^ 31) (h0 : 0 < d) (hd : d < 2 ^ 31) : nI a / nI d = nI (a / d) := by
  apply Int32.toInt_inj.mp
  rw [lg_idiv_nonneg (by rw [nI_toInt ha]; omega) (by rw [nI_toInt hd]; omega), nI_toInt ha, nI_toInt hd, nI_toInt (Nat.lt_of_le_of_lt (Nat.div_le_self a d) ha)]
  first | rfl | exact (Int.natCast_ediv _ _).symm
theorem pk_rem {a d : Nat} (ha : a < 2 ^ 31) (h0 : 0 < d) (hd : d < 2 ^ 31) : nI a - nI a / nI d * nI d = nI (a % d) := by
  rw [pk_div ha h0 hd, pk_mul, pk_sub (Nat.div_mul_le_self a d)]
  exact congrArg nI (by have := Nat.div_add_mod' a d; omega)
theorem pk_ix (x : Int32) {n : Nat} (hn : n < 2 ^ 31) : x < 0 ∨ nI n ≤ x ∨ ∃ j : Nat, j < n ∧ x = nI j := by
  by_cases h : x < 0
  · exact Or.inl h
  · obtain ⟨j, hj, rfl⟩ := nI_of h
    by_cases h2 : j < n
    · exact Or.inr (Or.inr ⟨j, h2, rfl⟩)
    · exact Or.inr (Or.inl (nI_le (by omega) hj))
theorem pk_le {x y : Int32} {A B : Prop} (a b : Nat) (f : a ≤ b → A) (g : b < a → B) (hx : x = nI a := by rfl) (hy : y = nI b := by rfl) (ha : a < 2 ^ 31 := by omega) (hb : b < 2 ^ 31 := by omega) : (x ≤ y → A) ∧ (¬ x ≤ y → B) := by
  subst hx hy
  rw [nI_leI ha hb]
  exact ⟨f, fun z => g (by omega)⟩
theorem pk_lt {x y : Int32} {A B : Prop} (a b : Nat) (f : a < b → A) (g : b ≤ a → B) (hx : x = nI a := by rfl) (hy : y = nI b := by rfl) (ha : a < 2 ^ 31 := by omega) (hb : b < 2 ^ 31 := by omega) : (x < y → A) ∧ (¬ x < y → B) := by
  subst hx hy
  rw [nI_ltI ha hb]
  exact ⟨f, fun z => g (by omega)⟩
theorem pk_eq {x y : Int32} {A B : Prop} (a b : Nat) (f : a = b → A) (g : a ≠ b → B) (hx : x = nI a := by rfl) (hy : y = nI b := by rfl) (ha : a < 2 ^ 31 := by omega) (hb : b < 2 ^ 31 := by omega) : (x = y → A) ∧ (¬ x = y → B) := by
  subst hx hy
  rw [nI_eq ha hb]
  exact ⟨f, g⟩
theorem pk_in {x : Int32} (n N : Nat) (h : n < N) (hx : x = nI n := by rfl) (hN : N < 2 ^ 31 := by omega) : vp_in x N := by
  subst hx
  exact vp_in_nI h hN
theorem pk_cl {x : Int32} (n : Nat) (hx : x = nI n := by rfl) (h : n < 2 ^ 31 := by omega) : x.toNatClampNeg = n := by
  subst hx
  exact nI_clamp h
theorem pk_tn {n : Nat} (h : n < 2 ^ 32) : (nI n).toBitVec.toNat = n := Nat.mod_eq_of_lt h
theorem pk_and (x : Int32) {m : Int32} (k : Nat) (hm : m.toBitVec.toNat = 2 ^ k - 1) : x &&& m = nI (x.toBitVec.toNat % 2 ^ k) := by
  apply Int32.toBitVec_inj.mp
  apply BitVec.eq_of_toNat_eq
  rw [Int32.toBitVec_and, BitVec.toNat_and, hm, Nat.and_two_pow_sub_one_eq_mod]
  show _ = (BitVec.ofNat 32 _).toNat
  rw [BitVec.toNat_ofNat]
  exact (Nat.mod_eq_of_lt (Nat.lt_of_le_of_lt (Nat.mod_le _ _) x.toBitVec.isLt)).symm
theorem pk_andN {n : Nat} (h : n < 2 ^ 32) {m : Int32} (k : Nat) (hm : m.toBitVec.toNat = 2 ^ k - 1) : nI n &&& m = nI (n % 2 ^ k) := by
  rw [pk_and _ k hm, pk_tn h]
theorem pk_shl (a s : Int32) (k : Nat) (hs : (s.toBitVec.smod 32).toNat = k) : (a <<< s).toBitVec.toNat = a.toBitVec.toNat * 2 ^ k % 2 ^ 32 := by
  show (a.toBitVec <<< (s.toBitVec.smod 32).toNat).toNat = _
  rw [hs, BitVec.toNat_shiftLeft, Nat.shiftLeft_eq]
theorem pk_shlN {n : Nat} (s : Int32) (k : Nat) (hs : (s.toBitVec.smod 32).toNat = k) (h : n * 2 ^ k < 2 ^ 32) : nI n <<< s = nI (n * 2 ^ k) := by
  apply Int32.toBitVec_inj.mp
  apply BitVec.eq_of_toNat_eq
  have hn : n < 2 ^ 32 := Nat.lt_of_le_of_lt (Nat.le_mul_of_pos_right n (Nat.two_pow_pos k)) h
  rw [pk_shl _ _ k hs, pk_tn hn, pk_tn h, Nat.mod_eq_of_lt h]
theorem pk_shr (a s : Int32) (k : Nat) (hs : (s.toBitVec.smod 32).toNat = k) : (a >>> s).toInt = a.toInt >>> k := by
  show (a.toBitVec.sshiftRight (s.toBitVec.smod 32).toNat).toInt = _
  rw [hs, BitVec.toInt_sshiftRight]
  rfl
theorem pk_shrN {n : Nat} (h : n < 2 ^ 31) (s : Int32) (k : Nat) (hs : (s.toBitVec.smod 32).toNat = k) : nI n >>> s = nI (n / 2 ^ k) := by
  apply Int32.toInt_inj.mp
  have h2 : n / 2 ^ k ≤ n := Nat.div_le_self _ _
  rw [pk_shr _ _ k hs, nI_toInt h, nI_toInt (by omega), Int.shiftRight_eq_div_pow]
  rfl
theorem pk_loop {σ : Type} (W : Nat → Nat → σ → Prop) (I : Nat → σ → Prop) (e i0 : Nat) (s : σ) (hi : i0 ≤ e) (h0 : I i0 s) (hx : ∀ n s, I e s → W (n + 1) e s)
    (hs : ∀ n i s, i < e → I i s → (∀ s', I (i + 1) s' → W n (i + 1) s') → W (n + 1) i s) : ∃ n, W n i0 s :=
  ⟨e + 1, loop_i W I e hx hs (e + 1) i0 s hi (by omega) h0⟩
theorem pk_loopD {σ : Type} (W : Nat → Nat → σ → Prop) (I : Nat → σ → Prop) (hx : ∀ n s, I 0 s → W (n + 1) 0 s)
    (hs : ∀ n i s, I (i + 1) s → (∀ s', I i s' → W n i s') → W (n + 1) (i + 1) s) : ∀ (e : Nat) (s : σ), I e s → W (e + 1) e s := by
  intro e
  induction e with
  | zero => exact fun s h => hx 0 s h
  | succ e ih => exact fun s h => hs (e + 1) e s h (fun s' h' => ih s' h')
theorem pk_least (P : Nat → Prop) (h : ∃ k, P k) : ∃ k, P k ∧ ∀ j, j < k → ¬ P j := by
  obtain ⟨k, hk⟩ := h
  induction k using Nat.strongRecOn with
  | ind k ih =>
    by_cases e : ∃ j, j < k ∧ P j
    · obtain ⟨j, hj, pj⟩ := e
      exact ih j hj pj
    · exact ⟨k, hk, fun j hj pj => e ⟨j, hj, pj⟩⟩
theorem s_l : ∀ n, n < 32 → ((nI n &&& 31).toBitVec.smod 32).toNat = n := by decide +kernel
theorem nx_and (a b : Nat) : nI a &&& nI b = nI (a &&& b) := by
  apply Int32.toBitVec_inj.1
  show BitVec.ofNat 32 a &&& BitVec.ofNat 32 b = BitVec.ofNat 32 (a &&& b)
  apply BitVec.eq_of_getLsbD_eq
  intro i hi
  simp [hi]
theorem nx_xor (a b : Nat) : nI a ^^^ nI b = nI (a ^^^ b) := by
  apply Int32.toBitVec_inj.1
  show BitVec.ofNat 32 a ^^^ BitVec.ofNat 32 b = BitVec.ofNat 32 (a ^^^ b)
  apply BitVec.eq_of_getLsbD_eq
  intro i hi
  simp [hi]
/-! numbers: sets of few members, digits -/
theorem tj_or (a b : Nat) : nI a ||| nI b = nI (a ||| b) := by
  apply Int32.toBitVec_inj.1
  show BitVec.ofNat 32 a ||| BitVec.ofNat 32 b = BitVec.ofNat 32 (a ||| b)
  apply BitVec.eq_of_getLsbD_eq
  intro i hi
  simp [hi]
theorem tj_bitv {s m : Nat} (hs : s < 2 ^ 31) (hm : m < 32) : (nI s >>> (nI m &&& 31)) &&& 1 = nI (s / 2 ^ m % 2) := by
  rw [pk_shrN hs (nI m &&& 31) m (s_l m hm)]
  show nI _ &&& nI 1 = _
  rw [nx_and, Nat.and_one_is_mod]
theorem tj_shl {m : Nat} (hm : m < 31) : (1 : Int32) <<< (nI m &&& 31) = nI (2 ^ m) := by
  have h : 1 * 2 ^ m < 2 ^ 32 := by
    rw [Nat.one_mul]
    exact Nat.pow_lt_pow_right (by decide) (by omega)
  have e := pk_shlN (n := 1) (nI m &&& 31) m (s_l m (by omega)) h
  rw [Nat.one_mul] at e
  exact e
/-- has: the branch on a bit -/
theorem tj_hasP {s m : Nat} {A B : Prop} (hs : s < 2 ^ 31) (hm : m < 32) (f : s.testBit m = true → A) (g : s.testBit m = false → B) : ((nI s >>> (nI m &&& 31)) &&& 1 = 1 → A) ∧ (¬ (nI s >>> (nI m &&& 31)) &&& 1 = 1 → B) := by
  have h2 : s / 2 ^ m % 2 < 2 := Nat.mod_lt _ (by decide)
  have e : (nI (s / 2 ^ m % 2) = 1) ↔ (s / 2 ^ m % 2 = 1) := nI_eq (b := 1) (by omega) (by decide)
  have t : s.testBit m = decide (s / 2 ^ m % 2 = 1) := Nat.testBit_eq_decide_div_mod_eq
  rw [tj_bitv hs hm, e]
  exact ⟨fun z => f (by rw [t]; exact decide_eq_true z), fun z => g (by rw [t]; exact decide_eq_false z)⟩
/-- a less b, sets below 32 -/
def tj_mi (a b : Nat) : Nat := a &&& (b ^^^ 31)
theorem tj_miI : ∀ a, a < 32 → ∀ b, b < 32 → nI a &&& (nI b ^^^ (-1)) = nI (tj_mi a b) := by decide +kernel
theorem tj_mi0 : ∀ a, a < 32 → ∀ b, b < 32 → (tj_mi a b = 0 ↔ ∀ v, v < 5 → a.testBit v = true → b.testBit v = true) := by decide +kernel
theorem tj_mi_lt {a b n : Nat} (h : a < n) : tj_mi a b < n := Nat.lt_of_le_of_lt Nat.and_le_left h
theorem tj_mi_le {a b : Nat} : tj_mi a b ≤ a := Nat.and_le_left
theorem tj_mi_sw (a o b : Nat) : tj_mi (a &&& o) b = tj_mi a b &&& o := by
  unfold tj_mi
  rw [Nat.and_assoc, Nat.and_comm o, ← Nat.and_assoc]
theorem tj_mi_b : ∀ s, s < 16 → ∀ i, i < 4 → ∀ j, j < 4 → ((tj_mi s (2 ^ i)).testBit j = true ↔ (s.testBit j = true ∧ j ≠ i)) := by decide +kernel
def tj_s (s : Nat) : Nat := s % 2 + s / 2 % 2 + s / 4 % 2 + s / 8 % 2
theorem tj_mi_s : ∀ s, s < 16 → ∀ i, i < 4 → s.testBit i = true → tj_s (tj_mi s (2 ^ i)) + 1 = tj_s s := by decide +kernel
theorem tj_s_0 : ∀ s, s < 16 → (tj_s s = 0 ↔ s = 0) := by decide +kernel
theorem tj_s_some : ∀ s, s < 16 → s ≠ 0 → ∃ i, i < 4 ∧ s.testBit i = true := by decide +kernel
theorem tj_s_le : ∀ s, s < 16 → tj_s s ≤ 4 := by decide +kernel
theorem tj_tb_lt {s n i : Nat} (h : s < 2 ^ n) (hi : s.testBit i = true) : i < n := by
  rcases Nat.lt_or_ge i n with z | z
  · exact z
  · rw [Nat.testBit_lt_two_pow (Nat.lt_of_lt_of_le h (Nat.pow_le_pow_right (by decide) z))] at hi
    exact absurd hi (by decide)
/-! columns, digits, rows -/
def tj_w (r : Nat) : Nat := if r = 2 then 3 else 2
def tj_n (r : Nat) : Nat := if r = 2 then 125 else 25
def tj_o (r : Nat) : Nat := if r = 2 then 31 else 6
def tj_g (code v : Nat) : Nat := code / 5 ^ (4 - v) % 5
def tj_c (r vs c : Nat) : Nat := vs / 5 ^ (tj_w r - 1 - c) % 5
theorem tj_g_lt (code v : Nat) : tj_g code v < 5 := Nat.mod_lt _ (by decide)
theorem tj_c_lt (r vs c : Nat) : tj_c r vs c < 5 := Nat.mod_lt _ (by decide)
theorem tj_on (r : Nat) : (r = 2 ∧ tj_w r = 3 ∧ tj_n r = 125 ∧ tj_o r = 31) ∨ (r ≠ 2 ∧ tj_w r = 2 ∧ tj_n r = 25 ∧ tj_o r = 6) := by
  by_cases h : r = 2
  · subst h; exact Or.inl ⟨rfl, rfl, rfl, rfl⟩
  · exact Or.inr ⟨h, if_neg h, if_neg h, if_neg h⟩
theorem tj_w_2 (r : Nat) : tj_w r = 2 ∨ tj_w r = 3 := by
  rcases tj_on r with h | h <;> omega
def tj_rp (r vs : Nat) (g : Nat → Nat) : Nat → Nat
  | 0 => 0
  | c + 1 => 5 * tj_rp r vs g c + g (tj_c r vs c)
def tj_row (r vs : Nat) (g : Nat → Nat) : Nat := tj_rp r vs g (tj_w r)
theorem tj_row2 (vs : Nat) (g : Nat → Nat) : tj_row 2 vs g = 5 * (5 * g (tj_c 2 vs 0) + g (tj_c 2 vs 1)) + g (tj_c 2 vs 2) := by
  show 5 * (5 * (5 * 0 + g (tj_c 2 vs 0)) + g (tj_c 2 vs 1)) + g (tj_c 2 vs 2) = _
  rw [Nat.mul_zero, Nat.zero_add]
theorem tj_rown {r : Nat} (h : r ≠ 2) (vs : Nat) (g : Nat → Nat) : tj_row r vs g = 5 * g (tj_c r vs 0) + g (tj_c r vs 1) := by
  have e : tj_w r = 2 := if_neg h
  unfold tj_row
  rw [e]
  show 5 * (5 * 0 + g (tj_c r vs 0)) + g (tj_c r vs 1) = _
  rw [Nat.mul_zero, Nat.zero_add]
theorem tj_rp_lt {r vs : Nat} {g : Nat → Nat} (h : ∀ v, v < 5 → g v < 5) : ∀ c, tj_rp r vs g c < 5 ^ c := by
  intro c
  induction c with
  | zero => exact Nat.one_pos
  | succ c ih =>
    have := h _ (tj_c_lt r vs c)
    unfold tj_rp
    rw [Nat.pow_succ]
    omega
theorem tj_n_w (r : Nat) : 5 ^ tj_w r = tj_n r := by
  rcases tj_on r with ⟨_, a, b, _⟩ | ⟨_, a, b, _⟩ <;> rw [a, b]
theorem tj_row_lt {r vs : Nat} {g : Nat → Nat} (h : ∀ v, v < 5 → g v < 5) : tj_row r vs g < tj_n r := by
  rw [← tj_n_w]
  exact tj_rp_lt h _
theorem tj_rp_eq {r vs : Nat} {g g' : Nat → Nat} : ∀ c, (∀ i, i < c → g (tj_c r vs i) = g' (tj_c r vs i)) → tj_rp r vs g c = tj_rp r vs g' c := by
  intro c
  induction c with
  | zero => intro _; rfl
  | succ c ih =>
    intro h
    unfold tj_rp
    rw [ih (fun i hi => h i (by omega)), h c (by omega)]
theorem tj_row_eq {r vs : Nat} {g g' : Nat → Nat} (h : ∀ c, c < tj_w r → g (tj_c r vs c) = g' (tj_c r vs c)) : tj_row r vs g = tj_row r vs g' := tj_rp_eq _ h
theorem tj_c20 (x : Nat) : tj_c 2 x 0 = x / 25 % 5 := rfl
theorem tj_c21 (x : Nat) : tj_c 2 x 1 = x / 5 % 5 := rfl
theorem tj_c22 (x : Nat) : tj_c 2 x 2 = x % 5 := by
  show x / 1 % 5 = x % 5
  rw [Nat.div_one]
theorem tj_cn0 {r : Nat} (h : r ≠ 2) (x : Nat) : tj_c r x 0 = x / 5 % 5 := by
  have ew : tj_w r = 2 := if_neg h
  simp [tj_c, ew]
theorem tj_cn1 {r : Nat} (h : r ≠ 2) (x : Nat) : tj_c r x 1 = x % 5 := by
  have ew : tj_w r = 2 := if_neg h
  simp [tj_c, ew]
/-- a column of the row that an atom becomes -/
theorem tj_c_row {r vs : Nat} {g : Nat → Nat} (h : ∀ v, v < 5 → g v < 5) {c : Nat} (hc : c < tj_w r) : tj_c r (tj_row r vs g) c = g (tj_c r vs c) := by
  have h0 := h _ (tj_c_lt r vs 0)
  have h1 := h _ (tj_c_lt r vs 1)
  have h2 := h _ (tj_c_lt r vs 2)
  by_cases e : r = 2
  · subst e
    rw [tj_row2]
    have hc' : c < 3 := hc
    have : c = 0 ∨ c = 1 ∨ c = 2 := by omega
    rcases this with rfl | rfl | rfl
    · rw [tj_c20 (5 * (5 * g (tj_c 2 vs 0) + g (tj_c 2 vs 1)) + g (tj_c 2 vs 2))]
      omega
    · rw [tj_c21 (5 * (5 * g (tj_c 2 vs 0) + g (tj_c 2 vs 1)) + g (tj_c 2 vs 2))]
      omega
    · rw [tj_c22 (5 * (5 * g (tj_c 2 vs 0) + g (tj_c 2 vs 1)) + g (tj_c 2 vs 2))]
      omega
  · rw [tj_rown e]
    have ew : tj_w r = 2 := if_neg e
    rw [ew] at hc
    have : c = 0 ∨ c = 1 := by omega
    rcases this with rfl | rfl
    · rw [tj_cn0 e (5 * g (tj_c r vs 0) + g (tj_c r vs 1))]
      omega
    · rw [tj_cn1 e (5 * g (tj_c r vs 0) + g (tj_c r vs 1))]
      omega
/-! the set of an atom, of a set of atoms -/
def tj_sp (r vs : Nat) : Nat → Nat
  | 0 => 0
  | c + 1 => tj_sp r vs c ||| 2 ^ tj_c r vs c
def tj_so (r vs : Nat) : Nat := tj_sp r vs (tj_w r)
theorem tj_sp_b {r vs v : Nat} : ∀ {n : Nat}, (tj_sp r vs n).testBit v = true ↔ ∃ c, c < n ∧ tj_c r vs c = v := by
  intro n
  induction n with
  | zero => exact ⟨fun z => absurd z (by simp [tj_sp]), fun ⟨c, hc, _⟩ => by omega⟩
  | succ n ih =>
    unfold tj_sp
    rw [Nat.testBit_or, Bool.or_eq_true, ih, Nat.testBit_two_pow, decide_eq_true_eq]
    constructor
    · rintro (⟨c, hc, e⟩ | e)
      · exact ⟨c, by omega, e⟩
      · exact ⟨n, by omega, e⟩
    · rintro ⟨c, hc, e⟩
      by_cases z : c = n
      · subst z; exact Or.inr e
      · exact Or.inl ⟨c, by omega, e⟩
theorem tj_sp_lt {r vs : Nat} : ∀ n, tj_sp r vs n < 32 := by
  intro n
  induction n with
  | zero => exact Nat.zero_lt_of_lt (show 0 < 32 by decide)
  | succ n ih => exact Nat.or_lt_two_pow (n := 5) ih (Nat.pow_lt_pow_right (by decide) (tj_c_lt r vs n))
def tj_vo (f : Nat → Nat) (s : Nat) : Nat → Nat
  | 0 => 0
  | n + 1 => if s.testBit n = true then tj_vo f s n ||| f n else tj_vo f s n
theorem tj_vo_b {f : Nat → Nat} {s v : Nat} : ∀ {n : Nat}, (tj_vo f s n).testBit v = true ↔ ∃ i, i < n ∧ s.testBit i = true ∧ (f i).testBit v = true := by
  intro n
  induction n with
  | zero => exact ⟨fun z => absurd z (by simp [tj_vo]), fun ⟨c, hc, _⟩ => by omega⟩
  | succ n ih =>
    unfold tj_vo
    split
    · rename_i hs
      rw [Nat.testBit_or, Bool.or_eq_true, ih]
      constructor
      · rintro (⟨c, hc, e⟩ | e)
        · exact ⟨c, by omega, e⟩
        · exact ⟨n, by omega, hs, e⟩
      · rintro ⟨c, hc, e, e'⟩
        by_cases z : c = n
        · subst z; exact Or.inr e'
        · exact Or.inl ⟨c, by omega, e, e'⟩
    · rename_i hs
      rw [ih]
      constructor
      · rintro ⟨c, hc, e⟩
        exact ⟨c, by omega, e⟩
      · rintro ⟨c, hc, e, e'⟩
        by_cases z : c = n
        · subst z; exact absurd e hs
        · exact ⟨c, by omega, e, e'⟩
theorem tj_vo_lt {f : Nat → Nat} {s : Nat} (h : ∀ i, f i < 32) : ∀ n, tj_vo f s n < 32 := by
  intro n
  induction n with
  | zero => exact Nat.zero_lt_of_lt (show 0 < 32 by decide)
  | succ n ih =>
    unfold tj_vo
    split
    · exact Nat.or_lt_two_pow (n := 5) ih (h n)
    · exact ih
theorem tj_vo_up {f : Nat → Nat} {s n : Nat} (h : s < 2 ^ n) : ∀ m, tj_vo f s (n + m) = tj_vo f s n := by
  intro m
  induction m with
  | zero => rfl
  | succ m ih =>
    show (if s.testBit (n + m) = true then tj_vo f s (n + m) ||| f (n + m) else tj_vo f s (n + m)) = _
    rw [if_neg (fun z => absurd (tj_tb_lt h z) (by omega)), ih]
theorem tj_vo_4 {f : Nat → Nat} {s n : Nat} (h : s < 2 ^ n) (hn : n ≤ 4) : tj_vo f s 4 = tj_vo f s n := by
  have := tj_vo_up (f := f) h (4 - n)
  rw [show n + (4 - n) = 4 by omega] at this
  exact this
theorem tj_vo_1 {f : Nat → Nat} {i : Nat} (hi : i < 4) : tj_vo f (2 ^ i) 4 = f i := by
  have : i = 0 ∨ i = 1 ∨ i = 2 ∨ i = 3 := by omega
  rcases this with rfl | rfl | rfl | rfl <;> simp [tj_vo, Nat.testBit_eq_decide_div_mod_eq]
end
section
/-! counting, the trie's counts, codes -/
/-- how many of f lo, .., f (lo + n - 1) hold -/
def tj_k (f : Nat → Bool) (lo : Nat) : Nat → Nat
  | 0 => 0
  | n + 1 => tj_k f lo n + (if f (lo + n) = true then 1 else 0)
theorem tj_k_le (f : Nat → Bool) (lo : Nat) : ∀ n, tj_k f lo n ≤ n := by
  intro n
  induction n with
  | zero => exact Nat.le_refl 0
  | succ n ih => unfold tj_k; split <;> omega
theorem tj_k_eq {f g : Nat → Bool} {lo : Nat} : ∀ {n : Nat}, (∀ j, lo ≤ j → j < lo + n → f j = g j) → tj_k f lo n = tj_k g lo n := by
  intro n
  induction n with
  | zero => intro _; rfl
  | succ n ih =>
    intro h
    unfold tj_k
    rw [ih (fun j a b => h j a (by omega)), h (lo + n) (by omega) (by omega)]
theorem tj_k_zero {f : Nat → Bool} {lo : Nat} : ∀ {n : Nat}, tj_k f lo n = 0 → ∀ j, lo ≤ j → j < lo + n → f j = false := by
  intro n
  induction n with
  | zero => intro _ j a b; omega
  | succ n ih =>
    intro h j a b
    unfold tj_k at h
    by_cases e : j = lo + n
    · subst e
      cases hf : f (lo + n) with
      | false => rfl
      | true => rw [hf] at h; simp at h
    · exact ih (by omega) j a (by omega)
theorem tj_k_none {f : Nat → Bool} {lo : Nat} : ∀ {n : Nat}, (∀ j, lo ≤ j → j < lo + n → f j = false) → tj_k f lo n = 0 := by
  intro n
  induction n with
  | zero => intro _; rfl
  | succ n ih =>
    intro h
    unfold tj_k
    rw [ih (fun j a b => h j a (by omega)), h (lo + n) (by omega) (by omega)]
    rfl
theorem tj_k_1 (f : Nat → Bool) (lo : Nat) : tj_k f lo 1 = if f lo = true then 1 else 0 := by
  show 0 + (if f (lo + 0) = true then 1 else 0) = _
  rw [Nat.zero_add, Nat.add_zero]
theorem tj_k_add (f : Nat → Bool) (lo a : Nat) : ∀ b, tj_k f lo (a + b) = tj_k f lo a + tj_k f (lo + a) b := by
  intro b
  induction b with
  | zero => rfl
  | succ b ih =>
    show tj_k f lo (a + b) + (if f (lo + (a + b)) = true then 1 else 0) = tj_k f lo a + (tj_k f (lo + a) b + (if f (lo + a + b) = true then 1 else 0))
    rw [ih, Nat.add_assoc lo a b]
    omega
theorem tj_k_sh {f g : Nat → Bool} {a b : Nat} : ∀ {n : Nat}, (∀ j, j < n → f (a + j) = g (b + j)) → tj_k f a n = tj_k g b n := by
  intro n
  induction n with
  | zero => intro _; rfl
  | succ n ih =>
    intro h
    unfold tj_k
    rw [ih (fun j hj => h j (by omega)), h n (by omega)]
/-- f with k put to b -/
def tj_p (f : Nat → Bool) (k : Nat) (b : Bool) : Nat → Bool := fun j => if j = k then b else f j
theorem tj_p_s {f : Nat → Bool} {k : Nat} {b : Bool} : tj_p f k b k = b := if_pos rfl
theorem tj_p_n {f : Nat → Bool} {k j : Nat} {b : Bool} (h : j ≠ k) : tj_p f k b j = f j := if_neg h
theorem tj_k_out {f : Nat → Bool} {k lo n : Nat} {b : Bool} (h : ¬ (lo ≤ k ∧ k < lo + n)) : tj_k (tj_p f k b) lo n = tj_k f lo n :=
  tj_k_eq (fun j a c => tj_p_n (by omega))
theorem tj_k_in {f : Nat → Bool} {k lo : Nat} (hf : f k = false) : ∀ {n : Nat}, lo ≤ k → k < lo + n → tj_k (tj_p f k true) lo n = tj_k f lo n + 1 := by
  intro n
  induction n with
  | zero => intro a b; omega
  | succ n ih =>
    intro a b
    unfold tj_k
    by_cases e : k = lo + n
    · subst e
      rw [tj_k_out (by omega), tj_p_s, hf]
      rfl
    · rw [ih a (by omega), tj_p_n (by omega)]
      omega
theorem tj_k_off {f : Nat → Bool} {k lo : Nat} (hf : f k = true) : ∀ {n : Nat}, lo ≤ k → k < lo + n → tj_k (tj_p f k false) lo n + 1 = tj_k f lo n := by
  intro n a b
  have e : tj_p (tj_p f k false) k true = f := by
    funext j
    by_cases h : j = k
    · subst h; rw [tj_p_s, hf]
    · rw [tj_p_n h, tj_p_n h]
  have := tj_k_in (f := tj_p f k false) tj_p_s a b
  rw [e] at this
  exact this.symm
/-- those of f that aren't of g, and g, are f -/
theorem tj_k_diff {f g : Nat → Bool} {lo : Nat} : ∀ {n : Nat}, (∀ j, lo ≤ j → j < lo + n → g j = true → f j = true) → tj_k (fun j => f j && !g j) lo n + tj_k g lo n = tj_k f lo n := by
  intro n
  induction n with
  | zero => intro _; rfl
  | succ n ih =>
    intro h
    have i := ih (fun j a b => h j a (by omega))
    have l := h (lo + n) (by omega) (by omega)
    rcases Bool.eq_false_or_eq_true (g (lo + n)) with hg | hg
    · have hf := l hg
      simp [tj_k, hf, hg] <;> omega
    · rcases Bool.eq_false_or_eq_true (f (lo + n)) with hf | hf <;> simp [tj_k, hf, hg] <;> omega
/-! the trie -/
def tj_Bl (B : Nat → Int32) (th : Nat → Bool) : Prop :=
  ((∀ j, j < 125 → B (343 + j) = nI (tj_k th (250 + j) 1)) ∧ (∀ j, j < 25 → B (318 + j) = nI (tj_k th (250 + 5 * j) 5)) ∧ (∀ j, j < 5 → B (313 + j) = nI (tj_k th (250 + 25 * j) 25)) ∧ B 312 = nI (tj_k th 250 125)) ∧
  (∀ r, r < 2 → (∀ j, j < 25 → B (156 * r + 6 + j) = nI (tj_k th (125 * r + j) 1)) ∧ (∀ j, j < 5 → B (156 * r + 1 + j) = nI (tj_k th (125 * r + 5 * j) 5)) ∧ B (156 * r) = nI (tj_k th (125 * r) 125)) ∧
  (∀ r, r < 2 → ∀ j, 25 ≤ j → j < 125 → th (125 * r + j) = false)
theorem tj_Bl_root {B : Nat → Int32} {th : Nat → Bool} (h : tj_Bl B th) {r : Nat} (hr : r < 3) : B (156 * r) = nI (tj_k th (125 * r) 125) := by
  by_cases e : r = 2
  · subst e; exact h.1.2.2.2
  · exact (h.2.1 r (by omega)).2.2
theorem tj_Bl_leaf {B : Nat → Int32} {th : Nat → Bool} (h : tj_Bl B th) {r row : Nat} (hr : r < 3) (hw : row < tj_n r) : B (156 * r + (tj_o r + row)) = nI (if th (125 * r + row) = true then 1 else 0) := by
  rw [← tj_k_1]
  rcases tj_on r with ⟨e, _, a, b⟩ | ⟨e, _, a, b⟩
  · subst e
    rw [b, show 156 * 2 + (31 + row) = 343 + row by omega]
    exact h.1.1 row (by omega)
  · rw [b, show 156 * r + (6 + row) = 156 * r + 6 + row by omega]
    exact (h.2.1 r (by omega)).1 row (by omega)
/-- a path of the wide relation changed -/
theorem tj_path_w {B : Nat → Int32} {th th' : Nat → Bool} {row : Nat} {dl : Int32} (h : tj_Bl B th) (hr : row < 125)
    (hi : ∀ lo n, lo ≤ 250 + row → 250 + row < lo + n → nI (tj_k th lo n) + dl = nI (tj_k th' lo n))
    (ho : ∀ lo n, ¬ (lo ≤ 250 + row ∧ 250 + row < lo + n) → tj_k th' lo n = tj_k th lo n) (hz : ∀ j, j ≠ 250 + row → th' j = th j)
    (B1 B2 B3 B4 : Nat → Int32) (e1 : B1 = upd B (343 + row) (B (343 + row) + dl)) (e2 : B2 = upd B1 (318 + row / 5) (B1 (318 + row / 5) + dl)) (e3 : B3 = upd B2 (313 + row / 25) (B2 (313 + row / 25) + dl)) (e4 : B4 = upd B3 312 (B3 312 + dl)) : tj_Bl B4 th' := by
  obtain ⟨⟨w1, w2, w3, w4⟩, hn, hf⟩ := h
  have d1 : B1 (318 + row / 5) = B (318 + row / 5) := by rw [e1]; exact pk_un (by omega)
  have d2 : B2 (313 + row / 25) = B (313 + row / 25) := by rw [e2, pk_un (by omega), e1]; exact pk_un (by omega)
  have d3 : B3 312 = B 312 := by rw [e3, pk_un (by omega), e2, pk_un (by omega), e1]; exact pk_un (by omega)
  have c1 : B4 (343 + row) = B (343 + row) + dl := by rw [e4, pk_un (by omega), e3, pk_un (by omega), e2, pk_un (by omega), e1, pk_us]
  have c2 : B4 (318 + row / 5) = B (318 + row / 5) + dl := by rw [e4, pk_un (by omega), e3, pk_un (by omega), e2, pk_us, d1]
  have c3 : B4 (313 + row / 25) = B (313 + row / 25) + dl := by rw [e4, pk_un (by omega), e3, pk_us, d2]
  have c4 : B4 312 = B 312 + dl := by rw [e4, pk_us, d3]
  have cn : ∀ j, j ≠ 343 + row → j ≠ 318 + row / 5 → j ≠ 313 + row / 25 → j ≠ 312 → B4 j = B j := by
    intro j a b c d
    rw [e4, pk_un d, e3, pk_un c, e2, pk_un b, e1, pk_un a]
  refine ⟨⟨?_, ?_, ?_, ?_⟩, ?_, ?_⟩
  · intro j hj
    by_cases e : j = row
    · subst e; rw [c1, w1 j hj]; exact hi _ _ (by omega) (by omega)
    · rw [cn _ (by omega) (by omega) (by omega) (by omega), w1 j hj, ho _ _ (by omega)]
  · intro j hj
    by_cases e : j = row / 5
    · subst e; rw [c2, w2 _ hj]; exact hi _ _ (by omega) (by omega)
    · rw [cn _ (by omega) (by omega) (by omega) (by omega), w2 j hj, ho _ _ (by omega)]
  · intro j hj
    by_cases e : j = row / 25
    · subst e; rw [c3, w3 _ hj]; exact hi _ _ (by omega) (by omega)
    · rw [cn _ (by omega) (by omega) (by omega) (by omega), w3 j hj, ho _ _ (by omega)]
  · rw [c4, w4]; exact hi _ _ (by omega) (by omega)
  · intro r hr2
    obtain ⟨n1, n2, n3⟩ := hn r hr2
    refine ⟨fun j hj => ?_, fun j hj => ?_, ?_⟩
    · rw [cn _ (by omega) (by omega) (by omega) (by omega), n1 j hj, ho _ _ (by omega)]
    · rw [cn _ (by omega) (by omega) (by omega) (by omega), n2 j hj, ho _ _ (by omega)]
    · rw [cn _ (by omega) (by omega) (by omega) (by omega), n3, ho _ _ (by omega)]
  · intro r hr2 j a b
    rw [hz _ (by omega)]
    exact hf r hr2 j a b
/-- a path of a narrow relation changed -/
theorem tj_path_n {B : Nat → Int32} {th th' : Nat → Bool} {r row : Nat} {dl : Int32} (h : tj_Bl B th) (h2 : r < 2) (hr : row < 25)
    (hi : ∀ lo n, lo ≤ 125 * r + row → 125 * r + row < lo + n → nI (tj_k th lo n) + dl = nI (tj_k th' lo n))
    (ho : ∀ lo n, ¬ (lo ≤ 125 * r + row ∧ 125 * r + row < lo + n) → tj_k th' lo n = tj_k th lo n) (hz : ∀ j, j ≠ 125 * r + row → th' j = th j)
    (B1 B2 B3 : Nat → Int32) (e1 : B1 = upd B (156 * r + 6 + row) (B (156 * r + 6 + row) + dl)) (e2 : B2 = upd B1 (156 * r + 1 + row / 5) (B1 (156 * r + 1 + row / 5) + dl)) (e3 : B3 = upd B2 (156 * r) (B2 (156 * r) + dl)) : tj_Bl B3 th' := by
  obtain ⟨⟨w1, w2, w3, w4⟩, hn, hf⟩ := h
  have d1 : B1 (156 * r + 1 + row / 5) = B (156 * r + 1 + row / 5) := by rw [e1]; exact pk_un (by omega)
  have d2 : B2 (156 * r) = B (156 * r) := by rw [e2, pk_un (by omega), e1]; exact pk_un (by omega)
  have c1 : B3 (156 * r + 6 + row) = B (156 * r + 6 + row) + dl := by rw [e3, pk_un (by omega), e2, pk_un (by omega), e1, pk_us]
  have c2 : B3 (156 * r + 1 + row / 5) = B (156 * r + 1 + row / 5) + dl := by rw [e3, pk_un (by omega), e2, pk_us, d1]
  have c3 : B3 (156 * r) = B (156 * r) + dl := by rw [e3, pk_us, d2]
  have cn : ∀ j, j ≠ 156 * r + 6 + row → j ≠ 156 * r + 1 + row / 5 → j ≠ 156 * r → B3 j = B j := by
    intro j a b c
    rw [e3, pk_un c, e2, pk_un b, e1, pk_un a]
  refine ⟨⟨?_, ?_, ?_, ?_⟩, ?_, ?_⟩
  · intro j hj
    rw [cn _ (by omega) (by omega) (by omega), w1 j hj, ho _ _ (by omega)]
  · intro j hj
    rw [cn _ (by omega) (by omega) (by omega), w2 j hj, ho _ _ (by omega)]
  · intro j hj
    rw [cn _ (by omega) (by omega) (by omega), w3 j hj, ho _ _ (by omega)]
  · rw [cn _ (by omega) (by omega) (by omega), w4, ho _ _ (by omega)]
  · intro p hp
    obtain ⟨n1, n2, n3⟩ := hn p hp
    by_cases e : p = r
    · subst e
      refine ⟨fun j hj => ?_, fun j hj => ?_, ?_⟩
      · by_cases e : j = row
        · subst e; rw [c1, n1 j hj]; exact hi _ _ (by omega) (by omega)
        · rw [cn _ (by omega) (by omega) (by omega), n1 j hj, ho _ _ (by omega)]
      · by_cases e : j = row / 5
        · subst e; rw [c2, n2 _ hj]; exact hi _ _ (by omega) (by omega)
        · rw [cn _ (by omega) (by omega) (by omega), n2 j hj, ho _ _ (by omega)]
      · rw [c3, n3]; exact hi _ _ (by omega) (by omega)
    · refine ⟨fun j hj => ?_, fun j hj => ?_, ?_⟩
      · rw [cn _ (by omega) (by omega) (by omega), n1 j hj, ho _ _ (by omega)]
      · rw [cn _ (by omega) (by omega) (by omega), n2 j hj, ho _ _ (by omega)]
      · rw [cn _ (by omega) (by omega) (by omega), n3, ho _ _ (by omega)]
  · intro p hp j a b
    rw [hz _ (by omega)]
    exact hf p hp j a b
/-! codes that agree -/
theorem tj_g_up {c d v u : Nat} (hv : v ≤ 4) (h : c / 5 ^ (4 - v) = d / 5 ^ (4 - v)) (hu : u ≤ v) : tj_g c u = tj_g d u := by
  have e : 5 ^ (4 - u) = 5 ^ (4 - v) * 5 ^ (v - u) := by
    rw [← Nat.pow_add, show 4 - v + (v - u) = 4 - u by omega]
  unfold tj_g
  rw [e, ← Nat.div_div_eq_div_mul, ← Nat.div_div_eq_div_mul, h]
/-- the first code behind those that agree with c on 0 .. v -/
def tj_x (c v : Nat) : Nat := (c / 5 ^ (4 - v) + 1) * 5 ^ (4 - v)
theorem tj_x_gt (c v : Nat) : c < tj_x c v := by
  have := Nat.lt_div_mul_add (a := c) (b := 5 ^ (4 - v)) (Nat.pow_pos (by decide))
  unfold tj_x
  rw [Nat.add_mul, Nat.one_mul]
  exact this
theorem tj_x_in {c d v : Nat} (h1 : c ≤ d) (h2 : d < tj_x c v) : c / 5 ^ (4 - v) = d / 5 ^ (4 - v) := by
  have hp : 0 < 5 ^ (4 - v) := Nat.pow_pos (by decide)
  have a : c / 5 ^ (4 - v) ≤ d / 5 ^ (4 - v) := Nat.div_le_div_right h1
  have b : d / 5 ^ (4 - v) < c / 5 ^ (4 - v) + 1 := (Nat.div_lt_iff_lt_mul hp).mpr h2
  omega
theorem tj_x_le {c v : Nat} (hv : v ≤ 4) (h : c < 3125) : tj_x c v ≤ 3125 := by
  have : v = 0 ∨ v = 1 ∨ v = 2 ∨ v = 3 ∨ v = 4 := by omega
  unfold tj_x
  rcases this with rfl | rfl | rfl | rfl | rfl
  · show (c / 625 + 1) * 625 ≤ 3125
    omega
  · show (c / 125 + 1) * 125 ≤ 3125
    omega
  · show (c / 25 + 1) * 25 ≤ 3125
    omega
  · show (c / 5 + 1) * 5 ≤ 3125
    omega
  · show (c / 1 + 1) * 1 ≤ 3125
    omega
theorem tj_x_4 (c : Nat) : tj_x c 4 = c + 1 := by
  show (c / 1 + 1) * 1 = _
  omega
/-- the code of what is given -/
theorem tj_g_5 {c : Nat} (h : c < 3125) : c = 625 * tj_g c 0 + 125 * tj_g c 1 + 25 * tj_g c 2 + 5 * tj_g c 3 + tj_g c 4 := by
  show c = 625 * (c / 625 % 5) + 125 * (c / 125 % 5) + 25 * (c / 25 % 5) + 5 * (c / 5 % 5) + c / 1 % 5
  omega
/-- what is asked of a code -/
def tj_ao (a : Nat) (g : Nat → Nat) : Nat → Nat
  | 0 => 0
  | v + 1 => if a.testBit v = true then 5 * tj_ao a g v + g v else tj_ao a g v
theorem tj_ao_lt {a : Nat} {g : Nat → Nat} (h : ∀ v, v < 5 → g v < 5) : ∀ n, n ≤ 5 → tj_ao a g n < 5 ^ n := by
  intro n
  induction n with
  | zero => intro _; exact Nat.one_pos
  | succ n ih =>
    intro hn
    have i := ih (by omega)
    have := h n (by omega)
    unfold tj_ao
    rw [Nat.pow_succ]
    split <;> omega
/-! a path without rows -/
theorem tj_f30 {t : Nat → Bool} {vs : Nat} {g g' : Nat → Nat} (h5 : ∀ v, v < 5 → g' v < 5) (hk : tj_k t (250 + 25 * g (tj_c 2 vs 0)) 25 = 0) (h0 : g' (tj_c 2 vs 0) = g (tj_c 2 vs 0)) : t (250 + tj_row 2 vs g') = false := by
  have a1 := h5 _ (tj_c_lt 2 vs 1)
  have a2 := h5 _ (tj_c_lt 2 vs 2)
  refine tj_k_zero hk _ ?_ ?_ <;> (rw [tj_row2, h0]; omega)
theorem tj_f31 {t : Nat → Bool} {vs : Nat} {g g' : Nat → Nat} (h5 : ∀ v, v < 5 → g' v < 5) (hk : tj_k t (250 + 5 * (5 * g (tj_c 2 vs 0) + g (tj_c 2 vs 1))) 5 = 0) (h0 : g' (tj_c 2 vs 0) = g (tj_c 2 vs 0)) (h1 : g' (tj_c 2 vs 1) = g (tj_c 2 vs 1)) : t (250 + tj_row 2 vs g') = false := by
  have a2 := h5 _ (tj_c_lt 2 vs 2)
  refine tj_k_zero hk _ ?_ ?_ <;> (rw [tj_row2, h0, h1]; omega)
theorem tj_f20 {t : Nat → Bool} {r vs : Nat} {g g' : Nat → Nat} (hr : r ≠ 2) (h5 : ∀ v, v < 5 → g' v < 5) (hk : tj_k t (125 * r + 5 * g (tj_c r vs 0)) 5 = 0) (h0 : g' (tj_c r vs 0) = g (tj_c r vs 0)) : t (125 * r + tj_row r vs g') = false := by
  have a1 := h5 _ (tj_c_lt r vs 1)
  refine tj_k_zero hk _ ?_ ?_ <;> (rw [tj_rown hr, h0]; omega)
theorem tj_fw {t : Nat → Bool} {r vs m b : Nat} {g g' : Nat → Nat} (hm : ∀ c, c < tj_w r → tj_c r vs c ≤ m) (hf : t (b + tj_row r vs g) = false) (ha : ∀ v, v ≤ m → g' v = g v) : t (b + tj_row r vs g') = false := by
  rw [tj_row_eq (fun c hc => ha _ (hm c hc))]
  exact hf
end
section
/-! images of a renaming; what a tree-like question loses -/
theorem tj_s_or : ∀ x, x < 16 → ∀ y, y < 16 → tj_s (x ||| y) ≤ tj_s x + tj_s y := by decide +kernel
theorem tj_s_sub : ∀ x, x < 16 → ∀ y, y < 16 → (∀ j, j < 4 → x.testBit j = true → y.testBit j = true) → tj_s x ≤ tj_s y := by decide +kernel
theorem tj_s_one : ∀ b, b < 4 → tj_s (2 ^ b) = 1 ∧ 2 ^ b < 16 := by decide +kernel
theorem tj_or_lt {x y : Nat} (hx : x < 16) (hy : y < 16) : x ||| y < 16 := Nat.or_lt_two_pow (n := 4) hx hy
def tj_F1 (fi : Nat → Nat) (A b : Nat) : Nat := if A.testBit b = true then 2 ^ (fi b) else 0
def tj_F (fi : Nat → Nat) (A : Nat) : Nat := ((tj_F1 fi A 0 ||| tj_F1 fi A 1) ||| tj_F1 fi A 2) ||| tj_F1 fi A 3
def tj_z (A b : Nat) : Nat := if A.testBit b = true then 1 else 0
theorem tj_s_z : ∀ A, A < 16 → tj_s A = tj_z A 0 + tj_z A 1 + tj_z A 2 + tj_z A 3 := by decide +kernel
theorem tj_F1_s {fi : Nat → Nat} {A b : Nat} (h : fi b < 4) : tj_F1 fi A b < 16 ∧ tj_s (tj_F1 fi A b) ≤ tj_z A b := by
  unfold tj_F1 tj_z
  split
  · obtain ⟨a, c⟩ := tj_s_one _ h
    exact ⟨c, by omega⟩
  · exact ⟨by decide, by decide⟩
theorem tj_F_s {fi : Nat → Nat} {A : Nat} (hA : A < 16) (h : ∀ b, b < 4 → fi b < 4) : tj_F fi A < 16 ∧ tj_s (tj_F fi A) ≤ tj_s A := by
  obtain ⟨a0, b0⟩ := tj_F1_s (A := A) (h 0 (by decide))
  obtain ⟨a1, b1⟩ := tj_F1_s (A := A) (h 1 (by decide))
  obtain ⟨a2, b2⟩ := tj_F1_s (A := A) (h 2 (by decide))
  obtain ⟨a3, b3⟩ := tj_F1_s (A := A) (h 3 (by decide))
  have c1 := tj_s_or _ a0 _ a1
  have l1 := tj_or_lt a0 a1
  have c2 := tj_s_or _ l1 _ a2
  have l2 := tj_or_lt l1 a2
  have c3 := tj_s_or _ l2 _ a3
  refine ⟨tj_or_lt l2 a3, ?_⟩
  rw [tj_s_z A hA]
  unfold tj_F
  omega
theorem tj_F_mem {fi : Nat → Nat} {A b : Nat} (hb : b < 4) (h : A.testBit b = true) : (tj_F fi A).testBit (fi b) = true := by
  have e : (tj_F1 fi A b).testBit (fi b) = true := by unfold tj_F1; rw [if_pos h]; exact Nat.testBit_two_pow_self
  unfold tj_F
  rw [Nat.testBit_or, Nat.testBit_or, Nat.testBit_or]
  have : b = 0 ∨ b = 1 ∨ b = 2 ∨ b = 3 := by omega
  rcases this with rfl | rfl | rfl | rfl <;> rw [e] <;> simp
/-- every member of R is what fi makes of a member of A: R isn't larger than A -/
theorem tj_img {fi : Nat → Nat} {A R : Nat} (hA : A < 16) (hR : R < 16) (h : ∀ b, b < 4 → fi b < 4) (hm : ∀ j, j < 4 → R.testBit j = true → ∃ b, b < 4 ∧ A.testBit b = true ∧ fi b = j) : tj_s R ≤ tj_s A := by
  obtain ⟨l, c⟩ := tj_F_s hA h
  refine Nat.le_trans (tj_s_sub R hR _ l (fun j hj z => ?_)) c
  obtain ⟨b, hb, ha, e⟩ := hm j hj z
  rw [← e]
  exact tj_F_mem hb ha
/-- the first of n places that hold (r, x) -/
def tj_Fst (rl vr : Nat → Nat) (b n r x j : Nat) : Prop := j < n ∧ (rl (b + j) = r ∧ vr (b + j) = x) ∧ ∀ i, i < j → ¬ (rl (b + i) = r ∧ vr (b + i) = x)
def tj_fix (a : Nat) (g : Nat → Nat) : Prop := ∀ v, v < 5 → a.testBit v = true → g v = v
/-- a renaming of n atoms from place b into those of the set A of m atoms from place d -/
def tj_Into (rl vr : Nat → Nat) (a : Nat) (g : Nat → Nat) (b n d m A : Nat) : Prop :=
  tj_fix a g ∧ ∀ i, i < n → ∃ j, j < m ∧ A.testBit j = true ∧ rl (d + j) = rl (b + i) ∧ vr (d + j) = tj_row (rl (b + i)) (vr (b + i)) g
/-- the set of the first atoms that the n atoms become -/
def tj_Im (rl vr : Nat → Nat) (g : Nat → Nat) (b n d m R : Nat) : Prop :=
  (∀ i, i < n → ∃ j, R.testBit j = true ∧ tj_Fst rl vr d m (rl (b + i)) (tj_row (rl (b + i)) (vr (b + i)) g) j) ∧
  (∀ j, R.testBit j = true → ∃ i, i < n ∧ tj_Fst rl vr d m (rl (b + i)) (tj_row (rl (b + i)) (vr (b + i)) g) j)
theorem tj_Fst_u {rl vr : Nat → Nat} {b n r x j j' : Nat} (h : tj_Fst rl vr b n r x j) (h' : tj_Fst rl vr b n r x j') : j = j' := by
  rcases Nat.lt_trichotomy j j' with z | z | z
  · exact absurd h.2.1 (h'.2.2 j z)
  · exact z
  · exact absurd h'.2.1 (h.2.2 j' z)
theorem tj_Fst_ex {rl vr : Nat → Nat} {b n r x i : Nat} (hi : i < n) (h : rl (b + i) = r ∧ vr (b + i) = x) : ∃ j, j ≤ i ∧ tj_Fst rl vr b n r x j := by
  obtain ⟨j, hj, hl⟩ := pk_least (fun j => rl (b + j) = r ∧ vr (b + j) = x) ⟨i, h⟩
  have : j ≤ i := by
    rcases Nat.lt_or_ge i j with z | z
    · exact absurd h (hl i z)
    · exact z
  exact ⟨j, this, by omega, hj, hl⟩
theorem tj_Im_lt {rl vr : Nat → Nat} {g : Nat → Nat} {b n d m R : Nat} (h : tj_Im rl vr g b n d m R) : R < 2 ^ m := by
  apply Nat.lt_pow_two_of_testBit
  intro i hi
  cases e : R.testBit i with
  | false => rfl
  | true =>
    obtain ⟨k, _, hf⟩ := h.2 i e
    exact absurd hf.1 (by omega)
/-- the image of a renaming is no larger than a set that it leads into -/
theorem tj_small_le {rl vr : Nat → Nat} {g : Nat → Nat} {a b n m A R : Nat} (hm : m ≤ 4) (hA : A < 16) (h : tj_Into rl vr a g b n b m A) (hi : tj_Im rl vr g b n b m R) : tj_s R ≤ tj_s A := by
  have hc : ∀ x : Nat, ∃ y : Nat, x < m → tj_Fst rl vr b m (rl (b + x)) (vr (b + x)) y := by
    intro x
    by_cases hx : x < m
    · obtain ⟨j, _, hf⟩ := tj_Fst_ex hx (⟨rfl, rfl⟩ : rl (b + x) = rl (b + x) ∧ vr (b + x) = vr (b + x))
      exact ⟨j, fun _ => hf⟩
    · exact ⟨0, fun z => absurd z hx⟩
  obtain ⟨fi, hfi⟩ := Classical.axiomOfChoice hc
  have hl : ∀ x, x < 4 → (if x < m then fi x else 0) < 4 := by
    intro x hx
    split
    · have := (hfi x (by assumption)).1
      omega
    · decide
  have hR : R < 16 := Nat.lt_of_lt_of_le (tj_Im_lt hi) (by
    have := Nat.pow_le_pow_right (n := 2) (by decide) hm
    exact this)
  refine tj_img (fi := fun x => if x < m then fi x else 0) hA hR hl (fun j _ z => ?_)
  obtain ⟨i, hn, hf⟩ := hi.2 j z
  obtain ⟨k, hk, ha, e1, e2⟩ := h.2 i hn
  refine ⟨k, by omega, ha, ?_⟩
  show (if k < m then fi k else 0) = j
  rw [if_pos hk]
  have q := hfi k hk
  rw [e1, e2] at q
  exact tj_Fst_u q hf
/-- the image of a renaming: a set that it leads into, and whole -/
theorem tj_Im_into {rl vr : Nat → Nat} {g : Nat → Nat} {a b n d m R : Nat} (hf : tj_fix a g) (hi : tj_Im rl vr g b n d m R) : tj_Into rl vr a g b n d m R := by
  refine ⟨hf, fun i hn => ?_⟩
  obtain ⟨j, hj, h1, ⟨h2, h3⟩, _⟩ := hi.1 i hn
  exact ⟨j, h1, hj, h2, h3⟩
theorem tj_Im_whole {rl vr : Nat → Nat} {g : Nat → Nat} {a b n R : Nat} (h5 : ∀ v, v < 5 → g v < 5) (hf : tj_fix a g) (hi : tj_Im rl vr g b n b n R)
    (hw : ∀ v, v < 5 → a.testBit v = true → ∃ i, i < n ∧ (tj_so (rl (b + i)) (vr (b + i))).testBit v = true) :
    ∀ v, v < 5 → a.testBit v = true → (tj_vo (fun i => tj_so (rl (b + i)) (vr (b + i))) R n).testBit v = true := by
  intro v hv ha
  obtain ⟨i, hn, hb⟩ := hw v hv ha
  obtain ⟨j, hj, h1, ⟨h2, h3⟩, _⟩ := hi.1 i hn
  rw [tj_vo_b]
  refine ⟨j, h1, hj, ?_⟩
  obtain ⟨c, hc, e⟩ := tj_sp_b.mp hb
  show (tj_so (rl (b + j)) (vr (b + j))).testBit v = true
  rw [h2, h3]
  refine tj_sp_b.mpr ⟨c, hc, ?_⟩
  rw [tj_c_row h5 hc, e]
  exact hf v hv ha
/-! tree-like -/
def tj_SY (H : Nat → Nat → Prop) (s t : Nat) : Prop :=
  (∃ i, i < 4 ∧ s.testBit i = true ∧ H s i ∧ (∀ j, j < i → s.testBit j = true → ¬ H s j) ∧ t = tj_mi s (2 ^ i)) ∨ ((∀ i, i < 4 → s.testBit i = true → ¬ H s i) ∧ t = s)
def tj_HX (H : Nat → Nat → Prop) (s i : Nat) : Prop := tj_mi s (2 ^ i) = 0 ∨ H s i
def tj_chn (R : Nat → Nat → Prop) : Nat → Nat → Nat → Prop
  | 0, s, e => e = s
  | n + 1, s, e => ∃ m, R s m ∧ tj_chn R n m e
theorem tj_SY_u {H : Nat → Nat → Prop} {s a b : Nat} (h : tj_SY H s a) (h' : tj_SY H s b) : a = b := by
  rcases h with ⟨i, hi, bi, Hi, li, ei⟩ | ⟨n, e⟩
  · rcases h' with ⟨j, hj, bj, Hj, lj, ej⟩ | ⟨n', e'⟩
    · rcases Nat.lt_trichotomy i j with z | z | z
      · exact absurd Hi (lj i z bi)
      · rw [ei, ej, z]
      · exact absurd Hj (li j z bj)
    · exact absurd Hi (n' i hi bi)
  · rcases h' with ⟨j, hj, bj, Hj, lj, ej⟩ | ⟨n', e'⟩
    · exact absurd Hj (n j hj bj)
    · rw [e, e']
theorem tj_SY_c {H G : Nat → Nat → Prop} {s t : Nat} (h : ∀ i, i < 4 → s.testBit i = true → (G s i ↔ H s i)) (g : tj_SY G s t) : tj_SY H s t := by
  rcases g with ⟨i, hi, bi, Hi, li, ei⟩ | ⟨n, e⟩
  · exact Or.inl ⟨i, hi, bi, (h i hi bi).mp Hi, fun j hj bj z => li j hj bj ((h j (by omega) bj).mpr z), ei⟩
  · exact Or.inr ⟨fun i hi bi z => n i hi bi ((h i hi bi).mpr z), e⟩
theorem tj_chn_fix {R : Nat → Nat → Prop} {s : Nat} (h : ∀ t, R s t → t = s) : ∀ n e, tj_chn R n s e → e = s := by
  intro n
  induction n with
  | zero => exact fun e z => z
  | succ n ih =>
    rintro e ⟨m, h1, h2⟩
    have := h m h1
    subst this
    exact ih e h2
theorem tj_tree {H : Nat → Nat → Prop} (hH : ∀ s i, H s i → tj_mi s (2 ^ i) ≠ 0) : ∀ n s eX eY, s < 16 → tj_s s ≤ n → tj_chn (tj_SY (tj_HX H)) n s eX → tj_chn (tj_SY H) n s eY → (eX = 0 ↔ tj_s eY ≤ 1) := by
  have z0 : ∀ G : Nat → Nat → Prop, ∀ t, tj_SY G 0 t → t = 0 := by
    intro G t h
    rcases h with ⟨i, hi, bi, _⟩ | ⟨_, e⟩
    · rw [Nat.zero_testBit] at bi; exact absurd bi (by decide)
    · exact e
  intro n
  induction n with
  | zero =>
    intro s eX eY hs hn hx hy
    have e : s = 0 := (tj_s_0 s hs).mp (by omega)
    subst e
    have hx' : eX = 0 := hx
    have hy' : eY = 0 := hy
    subst hx' hy'
    exact ⟨fun _ => by decide, fun _ => rfl⟩
  | succ n ih =>
    intro s eX eY hs hn hx hy
    obtain ⟨mX, x1, x2⟩ := hx
    obtain ⟨mY, y1, y2⟩ := hy
    by_cases hc : tj_s s ≤ 1
    · have fY : ∀ t, tj_SY H s t → t = s := by
        intro t h
        rcases h with ⟨i, hi, bi, Hi, _⟩ | ⟨_, e⟩
        · have := tj_mi_s s hs i hi bi
          exact absurd ((tj_s_0 _ (tj_mi_lt hs)).mp (by omega)) (hH s i Hi)
        · exact e
      have eY' : eY = s := by
        have := fY mY y1
        subst this
        exact tj_chn_fix fY n eY y2
      have fX : mX = 0 := by
        rcases x1 with ⟨i, hi, bi, _, _, e⟩ | ⟨no, e⟩
        · rw [e]
          have := tj_mi_s s hs i hi bi
          exact (tj_s_0 _ (tj_mi_lt hs)).mp (by omega)
        · rw [e]
          rcases Nat.eq_zero_or_pos s with z | z
          · exact z
          · obtain ⟨i, hi, bi⟩ := tj_s_some s hs (by omega)
            have := tj_mi_s s hs i hi bi
            exact absurd (Or.inl ((tj_s_0 _ (tj_mi_lt hs)).mp (by omega))) (no i hi bi)
      subst fX eY'
      have : eX = 0 := tj_chn_fix (z0 _) n eX x2
      exact ⟨fun _ => hc, fun _ => this⟩
    · have hq : ∀ i, i < 4 → s.testBit i = true → (tj_HX H s i ↔ H s i) := by
        intro i hi bi
        refine ⟨fun z => z.elim (fun z => ?_) id, Or.inr⟩
        have := tj_mi_s s hs i hi bi
        rw [z] at this
        exact absurd this (by show ¬ (0 + 1 = tj_s s); omega)
      have xy : ∀ t, tj_SY (tj_HX H) s t → tj_SY H s t := fun t => tj_SY_c hq
      have em : mX = mY := tj_SY_u (xy _ x1) y1
      subst em
      rcases y1 with ⟨i, hi, bi, Hi, li, e⟩ | ⟨no, e⟩
      · have := tj_mi_s s hs i hi bi
        subst e
        exact ih _ eX eY (tj_mi_lt hs) (by omega) x2 y2
      · have u : tj_SY H s s := Or.inr ⟨no, rfl⟩
        subst e
        have a := tj_chn_fix (fun t h => tj_SY_u (xy t h) u) n eX x2
        have b := tj_chn_fix (fun t h => tj_SY_u h u) n eY y2
        subst a b
        refine ⟨fun z => ?_, fun z => absurd z hc⟩
        subst z
        exact absurd (by decide) hc
end
section
/-! choices, faults, marks -/
def tj_ch (th : Nat → Bool) (rl vr : Nat → Nat) (b n : Nat) (g : Nat → Nat) : Prop := ∀ i, i < n → th (125 * rl (b + i) + tj_row (rl (b + i)) (vr (b + i)) g) = true
def tj_FA (th : Nat → Bool) (r vs code f : Nat) : Prop :=
  (f = 5 ∧ th (125 * r + tj_row r vs (tj_g code)) = true) ∨ (f ≤ 4 ∧ ∀ d, (∀ v, v ≤ f → tj_g d v = tj_g code v) → th (125 * r + tj_row r vs (tj_g d)) = false)
def tj_FS (th : Nat → Bool) (rl vr : Nat → Nat) (b n code f : Nat) : Prop :=
  (f = 5 ∧ tj_ch th rl vr b n (tj_g code)) ∨ (f ≤ 4 ∧ ∀ d, (∀ v, v ≤ f → tj_g d v = tj_g code v) → ¬ tj_ch th rl vr b n (tj_g d))
theorem tj_FS_0 (th : Nat → Bool) (rl vr : Nat → Nat) (b code : Nat) : tj_FS th rl vr b 0 code 5 := Or.inl ⟨rfl, fun i hi => absurd hi (by omega)⟩
theorem tj_FS_le {th : Nat → Bool} {rl vr : Nat → Nat} {b n code f : Nat} (h : tj_FS th rl vr b n code f) : f ≤ 5 := by
  rcases h with ⟨h, _⟩ | ⟨h, _⟩ <;> omega
theorem tj_FA_le {th : Nat → Bool} {r vs code f : Nat} (h : tj_FA th r vs code f) : f ≤ 5 := by
  rcases h with ⟨h, _⟩ | ⟨h, _⟩ <;> omega
theorem tj_FS_lo {th : Nat → Bool} {rl vr : Nat → Nat} {b n code f e : Nat} (h1 : tj_FA th (rl (b + n)) (vr (b + n)) code e) (he : e < f) (hf : f ≤ 5) : tj_FS th rl vr b (n + 1) code e := by
  rcases h1 with ⟨h, _⟩ | ⟨h, z⟩
  · omega
  · refine Or.inr ⟨h, fun d hd c => ?_⟩
    have := c n (by omega)
    rw [z d hd] at this
    exact absurd this (by decide)
theorem tj_FS_hi {th : Nat → Bool} {rl vr : Nat → Nat} {b n code f e : Nat} (h : tj_FS th rl vr b n code f) (h1 : tj_FA th (rl (b + n)) (vr (b + n)) code e) (he : f ≤ e) : tj_FS th rl vr b (n + 1) code f := by
  rcases h with ⟨h, c⟩ | ⟨h, z⟩
  · rcases h1 with ⟨h', t⟩ | ⟨h', _⟩
    · refine Or.inl ⟨h, fun i hi => ?_⟩
      by_cases e' : i = n
      · subst e'; exact t
      · exact c i (by omega)
    · omega
  · exact Or.inr ⟨h, fun d hd c => z d hd (fun i hi => c i (by omega))⟩
/-- an array of marks -/
def tj_B (A : Nat → Int32) (P : Nat → Prop) (N : Nat) : Prop := ∀ k, k < N → (A k = 1 ∧ P k) ∨ (A k = 0 ∧ ¬ P k)
theorem tj_B_u {A : Nat → Int32} {P : Nat → Prop} {N j : Nat} (h : tj_B A P N) : tj_B (upd A j 1) (fun k => P k ∨ j = k) N := by
  intro k hk
  by_cases e : k = j
  · subst e; exact Or.inl ⟨pk_us, Or.inr rfl⟩
  · rw [pk_un e]
    rcases h k hk with ⟨a, p⟩ | ⟨a, p⟩
    · exact Or.inl ⟨a, Or.inl p⟩
    · exact Or.inr ⟨a, fun z => z.elim p (fun z => e z.symm)⟩
theorem tj_B_c {A : Nat → Int32} {P Q : Nat → Prop} {N : Nat} (h : tj_B A P N) (e : ∀ k, k < N → (P k ↔ Q k)) : tj_B A Q N := by
  intro k hk
  rcases h k hk with ⟨a, p⟩ | ⟨a, p⟩
  · exact Or.inl ⟨a, (e k hk).mp p⟩
  · exact Or.inr ⟨a, fun z => p ((e k hk).mpr z)⟩
theorem tj_B_0 {A : Nat → Int32} {P : Nat → Prop} {N : Nat} (h : ∀ k, k < N → A k = 0) (n : ∀ k, ¬ P k) : tj_B A P N := fun k hk => Or.inr ⟨h k hk, n k⟩
theorem tj_B_eq {A A' : Nat → Int32} {P : Nat → Prop} {N : Nat} (h : tj_B A P N) (h' : tj_B A' P N) : ∀ k, k < N → A k = A' k := by
  intro k hk
  rcases h k hk with ⟨a, p⟩ | ⟨a, p⟩ <;> rcases h' k hk with ⟨a', p'⟩ | ⟨a', p'⟩
  · rw [a, a']
  · exact absurd p p'
  · exact absurd p' p
  · rw [a, a']
/-- answers of the codes below c -/
def tj_PA (th : Nat → Bool) (rl vr : Nat → Nat) (b n a c k : Nat) : Prop := ∃ d, d < c ∧ tj_ch th rl vr b n (tj_g d) ∧ tj_ao a (tj_g d) 5 = k
/-- places (by L) of the rows matched by the codes below c -/
def tj_PM (L : Nat → Nat → Nat) (th : Nat → Bool) (rl vr : Nat → Nat) (b n c k : Nat) : Prop := ∃ d, d < c ∧ tj_ch th rl vr b n (tj_g d) ∧ ∃ i, i < n ∧ L (rl (b + i)) (tj_row (rl (b + i)) (vr (b + i)) (tj_g d)) = k
theorem tj_PA_skip {th : Nat → Bool} {rl vr : Nat → Nat} {b n a c c' k : Nat} (h : c ≤ c') (hs : ∀ d, c ≤ d → d < c' → ¬ tj_ch th rl vr b n (tj_g d)) : tj_PA th rl vr b n a c k ↔ tj_PA th rl vr b n a c' k := by
  constructor
  · rintro ⟨d, hd, r⟩
    exact ⟨d, by omega, r⟩
  · rintro ⟨d, hd, r, e⟩
    rcases Nat.lt_or_ge d c with z | z
    · exact ⟨d, z, r, e⟩
    · exact absurd r (hs d z hd)
theorem tj_PM_skip {L : Nat → Nat → Nat} {th : Nat → Bool} {rl vr : Nat → Nat} {b n c c' k : Nat} (h : c ≤ c') (hs : ∀ d, c ≤ d → d < c' → ¬ tj_ch th rl vr b n (tj_g d)) : tj_PM L th rl vr b n c k ↔ tj_PM L th rl vr b n c' k := by
  constructor
  · rintro ⟨d, hd, r⟩
    exact ⟨d, by omega, r⟩
  · rintro ⟨d, hd, r, e⟩
    rcases Nat.lt_or_ge d c with z | z
    · exact ⟨d, z, r, e⟩
    · exact absurd r (hs d z hd)
theorem tj_PA_one {th : Nat → Bool} {rl vr : Nat → Nat} {b n a c k : Nat} (hc : tj_ch th rl vr b n (tj_g c)) : (tj_PA th rl vr b n a c k ∨ tj_ao a (tj_g c) 5 = k) ↔ tj_PA th rl vr b n a (c + 1) k := by
  constructor
  · rintro (⟨d, hd, r⟩ | e)
    · exact ⟨d, by omega, r⟩
    · exact ⟨c, by omega, hc, e⟩
  · rintro ⟨d, hd, r, e⟩
    by_cases z : d = c
    · subst z; exact Or.inr e
    · exact Or.inl ⟨d, by omega, r, e⟩
theorem tj_PM_one {L : Nat → Nat → Nat} {th : Nat → Bool} {rl vr : Nat → Nat} {b n c k : Nat} (hc : tj_ch th rl vr b n (tj_g c)) : (tj_PM L th rl vr b n c k ∨ ∃ i, i < n ∧ L (rl (b + i)) (tj_row (rl (b + i)) (vr (b + i)) (tj_g c)) = k) ↔ tj_PM L th rl vr b n (c + 1) k := by
  constructor
  · rintro (⟨d, hd, r⟩ | e)
    · exact ⟨d, by omega, r⟩
    · exact ⟨c, by omega, hc, e⟩
  · rintro ⟨d, hd, r, e⟩
    by_cases z : d = c
    · subst z; exact Or.inr e
    · exact Or.inl ⟨d, by omega, r, e⟩
theorem tj_PA_0 {th : Nat → Bool} {rl vr : Nat → Nat} {b n a k : Nat} : ¬ tj_PA th rl vr b n a 0 k := fun ⟨d, hd, _⟩ => absurd hd (by omega)
theorem tj_PM_0 {L : Nat → Nat → Nat} {th : Nat → Bool} {rl vr : Nat → Nat} {b n k : Nat} : ¬ tj_PM L th rl vr b n 0 k := fun ⟨d, hd, _⟩ => absurd hd (by omega)
/-- nothing between a code and the first behind its fault -/
theorem tj_skip {th : Nat → Bool} {rl vr : Nat → Nat} {b n c f : Nat} (h : tj_FS th rl vr b n c f) (hf : f ≤ 4) : ∀ d, c ≤ d → d < tj_x c f → ¬ tj_ch th rl vr b n (tj_g d) := by
  intro d h1 h2
  rcases h with ⟨e, _⟩ | ⟨_, z⟩
  · omega
  · exact z d (fun v hv => (tj_g_up hf (tj_x_in h1 h2) hv).symm)
/-! how many marks -/
def tj_m (A : Nat → Int32) : Nat → Bool := fun k => decide (¬ A k = 0)
theorem tj_m_P {A : Nat → Int32} {P : Nat → Prop} {N k : Nat} (h : tj_B A P N) (hk : k < N) : tj_m A k = true ↔ P k := by
  unfold tj_m
  rw [decide_eq_true_eq]
  rcases h k hk with ⟨a, p⟩ | ⟨a, p⟩
  · exact ⟨fun _ => p, fun _ => by rw [a]; decide⟩
  · exact ⟨fun z => absurd a z, fun z => absurd z p⟩
theorem tj_b_ext {x y : Bool} (h : x = true ↔ y = true) : x = y := by
  cases x <;> cases y <;> simp_all
def tj_LX (r row : Nat) : Nat := 156 * r + (tj_o r + row)
def tj_LY (r row : Nat) : Nat := 125 * r + row
/-- the same rows are matched on both sides -/
theorem tj_match {th : Nat → Bool} {rl vr : Nat → Nat} {b n c r : Nat} (hr : r < 3) (hl : ∀ i, i < n → rl (b + i) < 3) : ∀ row, row < tj_n r → (tj_PM tj_LX th rl vr b n c (tj_LX r row) ↔ tj_PM tj_LY th rl vr b n c (tj_LY r row)) := by
  intro row hw
  have key : ∀ p x, p < 3 → x < tj_n p → (tj_LX p x = tj_LX r row ↔ tj_LY p x = tj_LY r row) := by
    intro p x hp hx
    unfold tj_LX tj_LY
    rcases tj_on p with ⟨_, _, _, _⟩ | ⟨_, _, _, _⟩ <;> rcases tj_on r with ⟨_, _, _, _⟩ | ⟨_, _, _, _⟩ <;> omega
  constructor
  · rintro ⟨d, hd, hc, i, hi, e⟩
    exact ⟨d, hd, hc, i, hi, (key _ _ (hl i hi) (tj_row_lt (fun v _ => tj_g_lt d v))).mp e⟩
  · rintro ⟨d, hd, hc, i, hi, e⟩
    exact ⟨d, hd, hc, i, hi, (key _ _ (hl i hi) (tj_row_lt (fun v _ => tj_g_lt d v))).mpr e⟩
theorem tj_PM_in {L : Nat → Nat → Nat} {th : Nat → Bool} {rl vr : Nat → Nat} {b n c k : Nat} (hl : ∀ i, i < n → rl (b + i) < 3) (h : tj_PM L th rl vr b n c k) : ∃ r row, r < 3 ∧ row < tj_n r ∧ L r row = k ∧ th (tj_LY r row) = true := by
  obtain ⟨d, hd, hc, i, hi, e⟩ := h
  exact ⟨_, _, hl i hi, tj_row_lt (fun v _ => tj_g_lt d v), e, hc i hi⟩
/-- one relation's marks: as many on both sides -/
theorem tj_mk_r {M M' : Nat → Int32} {th : Nat → Bool} {rl vr : Nat → Nat} {b n c r : Nat} (hr : r < 3) (hl : ∀ i, i < n → rl (b + i) < 3) (hX : tj_B M (tj_PM tj_LX th rl vr b n c) 468) (hY : tj_B M' (tj_PM tj_LY th rl vr b n c) 375) :
    tj_k (tj_m M) (156 * r) 156 = tj_k (tj_m M') (125 * r) 125 := by
  have ho : tj_o r + tj_n r ≤ 156 ∧ tj_n r ≤ 125 := by rcases tj_on r with ⟨_, _, _, _⟩ | ⟨_, _, _, _⟩ <;> omega
  have e1 : 156 = tj_o r + (tj_n r + (156 - tj_o r - tj_n r)) := by omega
  have e2 : 125 = tj_n r + (125 - tj_n r) := by omega
  have a1 : tj_k (tj_m M) (156 * r) 156 = tj_k (tj_m M) (156 * r) (tj_o r) + (tj_k (tj_m M) (156 * r + tj_o r) (tj_n r) + tj_k (tj_m M) (156 * r + tj_o r + tj_n r) (156 - tj_o r - tj_n r)) := by
    rw [← tj_k_add, ← tj_k_add, ← e1]
  have a2 : tj_k (tj_m M') (125 * r) 125 = tj_k (tj_m M') (125 * r) (tj_n r) + tj_k (tj_m M') (125 * r + tj_n r) (125 - tj_n r) := by
    rw [← tj_k_add, ← e2]
  have nX : ∀ j, j < 156 → ¬ (tj_o r ≤ j ∧ j < tj_o r + tj_n r) → tj_m M (156 * r + j) = false := by
    intro j hj hn
    cases z : tj_m M (156 * r + j) with
    | false => rfl
    | true =>
      obtain ⟨p, x, hp, hx, e, _⟩ := tj_PM_in hl ((tj_m_P hX (by omega)).mp z)
      have hp' : tj_o p + tj_n p ≤ 156 := by rcases tj_on p with ⟨_, _, _, _⟩ | ⟨_, _, _, _⟩ <;> omega
      unfold tj_LX at e
      have : p = r := by omega
      subst this
      omega
  have nY : ∀ j, j < 125 → ¬ j < tj_n r → tj_m M' (125 * r + j) = false := by
    intro j hj hn
    cases z : tj_m M' (125 * r + j) with
    | false => rfl
    | true =>
      obtain ⟨p, x, hp, hx, e, _⟩ := tj_PM_in hl ((tj_m_P hY (by omega)).mp z)
      have hp' : tj_n p ≤ 125 := by rcases tj_on p with ⟨_, _, _, _⟩ | ⟨_, _, _, _⟩ <;> omega
      unfold tj_LY at e
      have : p = r := by omega
      subst this
      omega
  have z1 : tj_k (tj_m M) (156 * r) (tj_o r) = 0 := tj_k_none (fun j h1 h2 => by
    have := nX (j - 156 * r) (by omega) (by omega)
    rw [show 156 * r + (j - 156 * r) = j by omega] at this
    exact this)
  have z2 : tj_k (tj_m M) (156 * r + tj_o r + tj_n r) (156 - tj_o r - tj_n r) = 0 := tj_k_none (fun j h1 h2 => by
    have := nX (j - 156 * r) (by omega) (by omega)
    rw [show 156 * r + (j - 156 * r) = j by omega] at this
    exact this)
  have z3 : tj_k (tj_m M') (125 * r + tj_n r) (125 - tj_n r) = 0 := tj_k_none (fun j h1 h2 => by
    have := nY (j - 125 * r) (by omega) (by omega)
    rw [show 125 * r + (j - 125 * r) = j by omega] at this
    exact this)
  have mid : tj_k (tj_m M) (156 * r + tj_o r) (tj_n r) = tj_k (tj_m M') (125 * r) (tj_n r) := by
    refine tj_k_sh (fun j hj => tj_b_ext ?_)
    rw [Nat.add_assoc]
    exact (tj_m_P (k := 156 * r + (tj_o r + j)) hX (by omega)).trans ((tj_match hr hl j hj).trans (tj_m_P (k := 125 * r + j) hY (by omega)).symm)
  omega
theorem tj_3 (f : Nat → Bool) (w : Nat) : tj_k f 0 (3 * w) = tj_k f (w * 0) w + tj_k f (w * 1) w + tj_k f (w * 2) w := by
  have a := tj_k_add f 0 w (w + w)
  have b := tj_k_add f (0 + w) w w
  rw [show 3 * w = w + (w + w) by omega, a, b, Nat.mul_zero, Nat.mul_one, Nat.zero_add, show w + w = w * 2 by omega]
  omega
/-- idle -/
theorem tj_idle {M M' : Nat → Int32} {th : Nat → Bool} {rl vr : Nat → Nat} {b n c : Nat} (hl : ∀ i, i < n → rl (b + i) < 3) (hX : tj_B M (tj_PM tj_LX th rl vr b n c) 468) (hY : tj_B M' (tj_PM tj_LY th rl vr b n c) 375) :
    tj_k (fun k => th k && !tj_m M' k) 0 375 + tj_k (tj_m M) 0 468 = tj_k th 0 125 + tj_k th 125 125 + tj_k th 250 125 := by
  have a := tj_3 (tj_m M) 156
  have b' := tj_3 (tj_m M') 125
  have c' := tj_3 th 125
  have d0 := tj_mk_r (r := 0) (by decide) hl hX hY
  have d1 := tj_mk_r (r := 1) (by decide) hl hX hY
  have d2 := tj_mk_r (r := 2) (by decide) hl hX hY
  have e : tj_k (tj_m M) 0 468 = tj_k (tj_m M') 0 375 := by
    have a' : tj_k (tj_m M) 0 468 = tj_k (tj_m M) (156 * 0) 156 + tj_k (tj_m M) (156 * 1) 156 + tj_k (tj_m M) (156 * 2) 156 := a
    have b'' : tj_k (tj_m M') 0 375 = tj_k (tj_m M') (125 * 0) 125 + tj_k (tj_m M') (125 * 1) 125 + tj_k (tj_m M') (125 * 2) 125 := b'
    rw [a', b'', d0, d1, d2]
  rw [e]
  have f := tj_k_diff (f := th) (g := tj_m M') (lo := 0) (n := 375) (fun j h1 h2 hm => by
    obtain ⟨p, x, _, _, e', t⟩ := tj_PM_in hl ((tj_m_P hY (by omega)).mp hm)
    rw [← e']
    exact t)
  rw [f]
  exact c'
/-! scans over marks -/
def tj_fa (A : Nat → Int32) (k : Int32) : Nat → Nat → Nat → Int32
  | 0, _, _ => -3
  | d + 1, a, b => if A a = 0 then tj_fa A k d (a + 1) b else if nI b = k then nI a else tj_fa A k d (a + 1) (b + 1)
theorem tj_fa_eq {A A' : Nat → Int32} {k : Int32} {N : Nat} (h : ∀ a, a < N → A a = A' a) : ∀ d a b, a + d ≤ N → tj_fa A k d a b = tj_fa A' k d a b := by
  intro d
  induction d with
  | zero => intro a b _; rfl
  | succ d ih =>
    intro a b hd
    unfold tj_fa
    rw [h a (by omega), ih (a + 1) b (by omega), ih (a + 1) (b + 1) (by omega)]
theorem tj_fa_neg {A : Nat → Int32} {k : Int32} (hk : k < 0) : ∀ d a b, b + d < 2 ^ 31 → tj_fa A k d a b = -3 := by
  intro d
  induction d with
  | zero => intro a b _; rfl
  | succ d ih =>
    intro a b hd
    have : ¬ nI b = k := by
      intro e
      rw [← e] at hk
      exact nI_pos (n := b) (by omega) hk
    unfold tj_fa
    rw [ih (a + 1) b (by omega), ih (a + 1) (b + 1) (by omega), if_neg this]
    split <;> rfl
end
section
/-! smallest and within, without programs -/
theorem tj_Im_0 {rl vr : Nat → Nat} {g : Nat → Nat} {b d m : Nat} : tj_Im rl vr g b 0 d m 0 :=
  ⟨fun i hi => absurd hi (by omega), fun j z => absurd z (by rw [Nat.zero_testBit]; decide)⟩
theorem tj_Im_s {rl vr : Nat → Nat} {g : Nat → Nat} {b n d m R j : Nat} (h : tj_Im rl vr g b n d m R) (hf : tj_Fst rl vr d m (rl (b + n)) (tj_row (rl (b + n)) (vr (b + n)) g) j) : tj_Im rl vr g b (n + 1) d m (R ||| 2 ^ j) := by
  constructor
  · intro i hi
    by_cases e : i = n
    · subst e
      exact ⟨j, by rw [Nat.testBit_or, Nat.testBit_two_pow_self, Bool.or_true], hf⟩
    · obtain ⟨k, hk, f⟩ := h.1 i (by omega)
      exact ⟨k, by rw [Nat.testBit_or, hk, Bool.true_or], f⟩
  · intro k hk
    rw [Nat.testBit_or, Bool.or_eq_true, Nat.testBit_two_pow, decide_eq_true_eq] at hk
    rcases hk with hk | hk
    · obtain ⟨i, hi, f⟩ := h.2 k hk
      exact ⟨i, by omega, f⟩
    · subst hk
      exact ⟨n, by omega, hf⟩
theorem tj_Im_u {rl vr : Nat → Nat} {g : Nat → Nat} {b n d m R R' : Nat} (h : tj_Im rl vr g b n d m R) (h' : tj_Im rl vr g b n d m R') : R = R' := by
  have key : ∀ {R R' : Nat}, tj_Im rl vr g b n d m R → tj_Im rl vr g b n d m R' → ∀ j, R.testBit j = true → R'.testBit j = true := by
    intro R R' h h' j z
    obtain ⟨i, hi, f⟩ := h.2 j z
    obtain ⟨k, hk, f'⟩ := h'.1 i hi
    rw [tj_Fst_u f f']
    exact hk
  apply Nat.eq_of_testBit_eq
  intro j
  exact tj_b_ext ⟨key h h' j, key h' h j⟩
theorem tj_Im_ex {rl vr : Nat → Nat} {g : Nat → Nat} {a b d m A : Nat} : ∀ {n : Nat}, tj_Into rl vr a g b n d m A → ∃ R, tj_Im rl vr g b n d m R := by
  intro n
  induction n with
  | zero => exact fun _ => ⟨0, tj_Im_0⟩
  | succ n ih =>
    intro h
    obtain ⟨R, hR⟩ := ih ⟨h.1, fun i hi => h.2 i (by omega)⟩
    obtain ⟨j, hj, _, e1, e2⟩ := h.2 n (by omega)
    obtain ⟨k, _, f⟩ := tj_Fst_ex hj ⟨e1, e2⟩
    exact ⟨_, tj_Im_s hR f⟩
theorem tj_Im_ne {rl vr : Nat → Nat} {g : Nat → Nat} {b n d m R : Nat} (h : tj_Im rl vr g b n d m R) (hn : 0 < n) : R ≠ 0 := by
  intro e
  obtain ⟨j, hj, _⟩ := h.1 0 hn
  rw [e, Nat.zero_testBit] at hj
  exact absurd hj (by decide)
theorem tj_Into_all {rl vr : Nat → Nat} {g : Nat → Nat} {a b n d m A : Nat} (h : tj_Into rl vr a g b n d m A) : tj_Into rl vr a g b n d m (2 ^ m - 1) := by
  refine ⟨h.1, fun i hi => ?_⟩
  obtain ⟨j, hj, _, e⟩ := h.2 i hi
  exact ⟨j, hj, by rw [Nat.testBit_two_pow_sub_one]; exact decide_eq_true hj, e⟩
/-- what a renaming answers: 0 and it leads nowhere, or its image -/
def tj_RS (rl vr : Nat → Nat) (a : Nat) (g : Nat → Nat) (b n d m R : Nat) : Prop :=
  (R = 0 ∧ ∀ A, ¬ tj_Into rl vr a g b n d m A) ∨ (tj_fix a g ∧ tj_Im rl vr g b n d m R)
def tj_Le (P : Nat → Prop) (n m : Nat) : Prop := m ≤ n ∧ (m = n ∨ P m) ∧ ∀ k, P k → m ≤ k
theorem tj_Le_u {P Q : Nat → Prop} {n x y : Nat} (hX : tj_Le P n x) (hY : tj_Le Q n y) (h1 : ∀ k, P k → ∃ k', k' ≤ k ∧ Q k') (h2 : ∀ k, Q k → ∃ k', k' ≤ k ∧ P k') : x = y := by
  obtain ⟨a1, a2, a3⟩ := hX
  obtain ⟨b1, b2, b3⟩ := hY
  apply Nat.le_antisymm
  · rcases b2 with e | e
    · omega
    · obtain ⟨k, hk, p⟩ := h2 _ e
      exact Nat.le_trans (a3 k p) hk
  · rcases a2 with e | e
    · omega
    · obtain ⟨k, hk, p⟩ := h1 _ e
      exact Nat.le_trans (b3 k p) hk
/-- sizes of images of the codes below c -/
def tj_SX (rl vr : Nat → Nat) (a b n c k : Nat) : Prop := ∃ d R, d < c ∧ tj_fix a (tj_g d) ∧ tj_Im rl vr (tj_g d) b n b n R ∧ tj_s R = k
/-- sets of atoms below c that are whole and that a renaming leads into -/
def tj_ok (rl vr : Nat → Nat) (a b n A : Nat) : Prop := A ≠ 0 ∧ (∀ v, v < 5 → a.testBit v = true → (tj_vo (fun i => tj_so (rl (b + i)) (vr (b + i))) A n).testBit v = true) ∧ (∃ d, d < 3125 ∧ tj_Into rl vr a (tj_g d) b n b n A)
def tj_SZ (rl vr : Nat → Nat) (a b n c k : Nat) : Prop := ∃ A, A < c ∧ tj_ok rl vr a b n A ∧ tj_s A = k
theorem tj_smallest {rl vr : Nat → Nat} {a b n x y : Nat} (hn : n ≤ 4) (h0 : 0 < n) (hw : ∀ v, v < 5 → a.testBit v = true → (tj_vo (fun i => tj_so (rl (b + i)) (vr (b + i))) (2 ^ n - 1) n).testBit v = true)
    (hX : tj_Le (tj_SX rl vr a b n 3125) n x) (hY : tj_Le (tj_SZ rl vr a b n (2 ^ n)) n y) : x = y := by
  have h16 : 2 ^ n ≤ 16 := Nat.pow_le_pow_right (n := 2) (by decide) hn
  refine tj_Le_u hX hY ?_ ?_
  · rintro k ⟨d, R, hd, hf, hi, e⟩
    refine ⟨k, Nat.le_refl k, R, tj_Im_lt hi, ⟨tj_Im_ne hi h0, ?_, ⟨d, hd, tj_Im_into hf hi⟩⟩, e⟩
    refine tj_Im_whole (fun v _ => tj_g_lt d v) hf hi (fun v hv ha => ?_)
    obtain ⟨i, h1, _, h3⟩ := tj_vo_b.mp (hw v hv ha)
    exact ⟨i, h1, h3⟩
  · rintro k ⟨A, hA, ⟨_, _, ⟨d, hd, hi⟩⟩, e⟩
    obtain ⟨R, hR⟩ := tj_Im_ex hi
    refine ⟨tj_s R, ?_, d, R, hd, hi.1, hR, rfl⟩
    rw [← e]
    exact tj_small_le hn (by omega) hi hR
/-- one code more -/
theorem tj_SX_s {rl vr : Nat → Nat} {a b n c k : Nat} : tj_SX rl vr a b n (c + 1) k ↔ (tj_SX rl vr a b n c k ∨ ∃ R, tj_fix a (tj_g c) ∧ tj_Im rl vr (tj_g c) b n b n R ∧ tj_s R = k) := by
  constructor
  · rintro ⟨d, R, hd, r⟩
    by_cases e : d = c
    · subst e; exact Or.inr ⟨R, r⟩
    · exact Or.inl ⟨d, R, by omega, r⟩
  · rintro (⟨d, R, hd, r⟩ | ⟨R, r⟩)
    · exact ⟨d, R, by omega, r⟩
    · exact ⟨c, R, by omega, r⟩
theorem tj_Le_0 {P : Nat → Prop} {n : Nat} (h : ∀ k, ¬ P k) : tj_Le P n n := ⟨Nat.le_refl n, Or.inl rfl, fun k z => absurd z (h k)⟩
theorem tj_Le_c {P Q : Nat → Prop} {n m : Nat} (h : tj_Le P n m) (e : ∀ k, P k ↔ Q k) : tj_Le Q n m :=
  ⟨h.1, h.2.1.imp id (e m).mp, fun k z => h.2.2 k ((e k).mpr z)⟩
/-- a smaller one is found -/
theorem tj_Le_dn {P : Nat → Prop} {n m z : Nat} (h : tj_Le P n m) (hz : z < m) : tj_Le (fun k => P k ∨ k = z) n z :=
  ⟨by have := h.1; omega, Or.inr (Or.inr rfl), fun k c => c.elim (fun p => by have := h.2.2 k p; omega) (fun e => by omega)⟩
theorem tj_Le_up {P : Nat → Prop} {n m z : Nat} (h : tj_Le P n m) (hz : m ≤ z) : tj_Le (fun k => P k ∨ k = z) n m :=
  ⟨h.1, h.2.1.imp id Or.inl, fun k c => c.elim (h.2.2 k) (fun e => by omega)⟩
/-- X's turn -/
theorem tj_SX_dn {rl vr : Nat → Nat} {a b n c m R : Nat} (h : tj_Le (tj_SX rl vr a b n c) n m) (hf : tj_fix a (tj_g c)) (hi : tj_Im rl vr (tj_g c) b n b n R) (hz : tj_s R < m) : tj_Le (tj_SX rl vr a b n (c + 1)) n (tj_s R) := by
  refine tj_Le_c (tj_Le_dn h hz) (fun k => ?_)
  rw [tj_SX_s]
  refine ⟨fun z => z.imp id (fun e => ⟨R, hf, hi, e.symm⟩), fun z => z.imp id (fun ⟨R', _, hi', e⟩ => ?_)⟩
  rw [← e, tj_Im_u hi hi']
theorem tj_SX_up {rl vr : Nat → Nat} {a b n c m R : Nat} (h : tj_Le (tj_SX rl vr a b n c) n m) (hi : tj_RS rl vr a (tj_g c) b n b n R) (hz : R ≠ 0 → m ≤ tj_s R) (h0 : 0 < n) : tj_Le (tj_SX rl vr a b n (c + 1)) n m := by
  rcases hi with ⟨e, no⟩ | ⟨hf, hi⟩
  · refine tj_Le_c h (fun k => ?_)
    rw [tj_SX_s]
    exact ⟨Or.inl, fun z => z.elim id (fun ⟨R', hf, hi', _⟩ => absurd (tj_Im_into hf hi') (no _))⟩
  · refine tj_Le_c (tj_Le_up h (hz (tj_Im_ne hi h0))) (fun k => ?_)
    rw [tj_SX_s]
    refine ⟨fun z => z.imp id (fun e => ⟨R, hf, hi, e.symm⟩), fun z => z.imp id (fun ⟨R', _, hi', e⟩ => ?_)⟩
    rw [← e, tj_Im_u hi hi']
/-- Y's turn -/
theorem tj_SZ_s {rl vr : Nat → Nat} {a b n c k : Nat} : tj_SZ rl vr a b n (c + 1) k ↔ (tj_SZ rl vr a b n c k ∨ (tj_ok rl vr a b n c ∧ tj_s c = k)) := by
  constructor
  · rintro ⟨A, hA, r⟩
    by_cases e : A = c
    · subst e; exact Or.inr r
    · exact Or.inl ⟨A, by omega, r⟩
  · rintro (⟨A, hA, r⟩ | r)
    · exact ⟨A, by omega, r⟩
    · exact ⟨c, by omega, r⟩
theorem tj_SZ_dn {rl vr : Nat → Nat} {a b n c m : Nat} (h : tj_Le (tj_SZ rl vr a b n c) n m) (ok : tj_ok rl vr a b n c) (hz : tj_s c < m) : tj_Le (tj_SZ rl vr a b n (c + 1)) n (tj_s c) := by
  refine tj_Le_c (tj_Le_dn h hz) (fun k => ?_)
  rw [tj_SZ_s]
  exact ⟨fun z => z.imp id (fun e => ⟨ok, e.symm⟩), fun z => z.imp id (fun e => e.2.symm)⟩
theorem tj_SZ_up {rl vr : Nat → Nat} {a b n c m : Nat} (h : tj_Le (tj_SZ rl vr a b n c) n m) (hz : tj_ok rl vr a b n c → m ≤ tj_s c) : tj_Le (tj_SZ rl vr a b n (c + 1)) n m := by
  by_cases ok : tj_ok rl vr a b n c
  · refine tj_Le_c (tj_Le_up h (hz ok)) (fun k => ?_)
    rw [tj_SZ_s]
    exact ⟨fun z => z.imp id (fun e => ⟨ok, e.symm⟩), fun z => z.imp id (fun e => e.2.symm)⟩
  · refine tj_Le_c h (fun k => ?_)
    rw [tj_SZ_s]
    exact ⟨Or.inl, fun z => z.elim id (fun e => absurd e.1 ok)⟩
theorem tj_SZ_1 {rl vr : Nat → Nat} {a b n : Nat} : tj_Le (tj_SZ rl vr a b n 1) n n :=
  tj_Le_0 (fun k ⟨A, hA, ⟨h0, _⟩, _⟩ => h0 (by omega))
theorem tj_SX_0 {rl vr : Nat → Nat} {a b n : Nat} : tj_Le (tj_SX rl vr a b n 0) n n :=
  tj_Le_0 (fun k ⟨d, R, hd, _⟩ => absurd hd (by omega))
end
section
/-! arrays of numbers, of marks; the relation -/
def tj_A (f : Nat → Nat) : Nat → Int32 := fun j => nI (f j)
def tj_u (f : Nat → Nat) (k x : Nat) : Nat → Nat := fun j => if j = k then x else f j
theorem tj_u_s {f : Nat → Nat} {k x : Nat} : tj_u f k x k = x := if_pos rfl
theorem tj_u_n {f : Nat → Nat} {k x j : Nat} (h : j ≠ k) : tj_u f k x j = f j := if_neg h
theorem tj_A_u (f : Nat → Nat) (k x : Nat) : upd (tj_A f) k (nI x) = tj_A (tj_u f k x) := by
  funext j
  unfold upd tj_A tj_u
  split <;> rfl
theorem tj_A_0 : (fun _ => 0 : Nat → Int32) = tj_A (fun _ => 0) := rfl
def tj_T (f : Nat → Bool) : Nat → Int32 := fun j => if f j = true then 1 else 0
theorem tj_T_u (f : Nat → Bool) (k : Nat) : upd (tj_T f) k 1 = tj_T (tj_p f k true) := by
  funext j
  unfold upd tj_T tj_p
  by_cases e : j = k
  · rw [if_pos e, if_pos e]; rfl
  · rw [if_neg e, if_neg e]
theorem tj_T_c (f : Nat → Bool) (k : Nat) : upd (tj_T f) k 0 = tj_T (tj_p f k false) := by
  funext j
  unfold upd tj_T tj_p
  by_cases e : j = k
  · rw [if_pos e, if_pos e]; rfl
  · rw [if_neg e, if_neg e]
theorem tj_T_0 : (fun _ => 0 : Nat → Int32) = tj_T (fun _ => false) := rfl
theorem tj_T_f {f : Nat → Bool} {k : Nat} : tj_T f k = 0 ↔ f k = false := by
  unfold tj_T
  cases f k <;> simp
/-- atoms as both sides keep them, and the digits apart -/
def tj_At (rl vr : Nat → Nat) (va : Nat → Int32) : Prop := ∀ p, p < 8 → rl p < 3 ∧ vr p < tj_n (rl p) ∧ ∀ c, c < tj_w (rl p) → va (3 * p + c) = nI (tj_c (rl p) (vr p) c)
def tj_I (th : Nat → Bool) (cn ak rl vr : Nat → Nat) (lv : Nat) (B va : Nat → Int32) : Prop :=
  tj_Bl B th ∧ (∀ r, r < 3 → tj_k th (125 * r) 125 ≤ 16) ∧ (∀ q, q < 2 → cn q ≤ 4) ∧ (∀ q, q < 2 → ak q < 32) ∧ tj_At rl vr va ∧ lv < 3
theorem tj_At_0 : tj_At (fun _ => 0) (fun _ => 0) (fun _ => 0) := by
  intro p _
  refine ⟨(by decide : 0 < 3), (by decide : 0 < tj_n 0), fun c _ => ?_⟩
  show (0 : Int32) = nI (0 / 5 ^ (tj_w 0 - 1 - c) % 5)
  rw [Nat.zero_div]
  rfl
theorem tj_Bl_0 : tj_Bl (fun _ => 0) (fun _ => false) := by
  have z : ∀ lo n, (0 : Int32) = nI (tj_k (fun _ => false) lo n) := fun lo n => by rw [tj_k_none (fun _ _ _ => rfl)]; rfl
  exact ⟨⟨fun j _ => z _ _, fun j _ => z _ _, fun j _ => z _ _, z _ _⟩, fun r _ => ⟨fun j _ => z _ _, fun j _ => z _ _, z _ _⟩, fun r _ j _ _ => rfl⟩
theorem tj_I_0 : tj_I (fun _ => false) (fun _ => 0) (fun _ => 0) (fun _ => 0) (fun _ => 0) 2 (fun _ => 0) (fun _ => 0) :=
  ⟨tj_Bl_0, fun r _ => by rw [tj_k_none (fun _ _ _ => rfl)]; omega, fun _ _ => (by decide : 0 ≤ 4), fun _ _ => (by decide : 0 < 32), tj_At_0, by decide⟩
/-! sums and digits as the programs reckon them -/
def tj_zs (s : Nat) : Nat → Nat
  | 0 => 0
  | n + 1 => tj_zs s n + s / 2 ^ n % 2
theorem tj_zs_le (s : Nat) : ∀ n, tj_zs s n ≤ n := by
  intro n
  induction n with
  | zero => exact Nat.le_refl 0
  | succ n ih =>
    have : s / 2 ^ n % 2 < 2 := Nat.mod_lt _ (by decide)
    unfold tj_zs
    omega
theorem tj_zs_4 (s : Nat) : tj_zs s 4 = tj_s s := by
  show 0 + s / 1 % 2 + s / 2 % 2 + s / 4 % 2 + s / 8 % 2 = s % 2 + s / 2 % 2 + s / 4 % 2 + s / 8 % 2
  omega
theorem tj_zs_5 {s : Nat} (h : s < 16) : tj_zs s 5 = tj_s s := by
  show 0 + s / 1 % 2 + s / 2 % 2 + s / 4 % 2 + s / 8 % 2 + s / 16 % 2 = s % 2 + s / 2 % 2 + s / 4 % 2 + s / 8 % 2
  omega
theorem tj_zs_t {s n : Nat} (h : s.testBit n = true) : tj_zs s (n + 1) = tj_zs s n + 1 := by
  rw [Nat.testBit_eq_decide_div_mod_eq, decide_eq_true_eq] at h
  show tj_zs s n + s / 2 ^ n % 2 = _
  rw [h]
theorem tj_zs_f {s n : Nat} (h : s.testBit n = false) : tj_zs s (n + 1) = tj_zs s n := by
  rw [Nat.testBit_eq_decide_div_mod_eq, decide_eq_false_iff_not] at h
  have : s / 2 ^ n % 2 < 2 := Nat.mod_lt _ (by decide)
  show tj_zs s n + s / 2 ^ n % 2 = _
  omega
def tj_ca (g : Nat → Nat) (v : Nat) : Nat → Nat
  | 0 => 0
  | w + 1 => tj_ca g v w * 5 + (if w ≤ v then g w else 0) + (if w = v then 1 else 0)
theorem tj_ca_x {c v : Nat} (hv : v ≤ 4) (h : c < 3125) : tj_ca (tj_g c) v 5 = tj_x c v := by
  have g0 : tj_g c 0 = c / 625 % 5 := rfl
  have g1 : tj_g c 1 = c / 125 % 5 := rfl
  have g2 : tj_g c 2 = c / 25 % 5 := rfl
  have g3 : tj_g c 3 = c / 5 % 5 := rfl
  have g4 : tj_g c 4 = c / 1 % 5 := rfl
  have : v = 0 ∨ v = 1 ∨ v = 2 ∨ v = 3 ∨ v = 4 := by omega
  rcases this with rfl | rfl | rfl | rfl | rfl
  · show ((((0 * 5 + tj_g c 0 + 1) * 5 + 0 + 0) * 5 + 0 + 0) * 5 + 0 + 0) * 5 + 0 + 0 = (c / 625 + 1) * 625
    omega
  · show ((((0 * 5 + tj_g c 0 + 0) * 5 + tj_g c 1 + 1) * 5 + 0 + 0) * 5 + 0 + 0) * 5 + 0 + 0 = (c / 125 + 1) * 125
    omega
  · show ((((0 * 5 + tj_g c 0 + 0) * 5 + tj_g c 1 + 0) * 5 + tj_g c 2 + 1) * 5 + 0 + 0) * 5 + 0 + 0 = (c / 25 + 1) * 25
    omega
  · show ((((0 * 5 + tj_g c 0 + 0) * 5 + tj_g c 1 + 0) * 5 + tj_g c 2 + 0) * 5 + tj_g c 3 + 1) * 5 + 0 + 0 = (c / 5 + 1) * 5
    omega
  · show ((((0 * 5 + tj_g c 0 + 0) * 5 + tj_g c 1 + 0) * 5 + tj_g c 2 + 0) * 5 + tj_g c 3 + 0) * 5 + tj_g c 4 + 1 = (c / 1 + 1) * 1
    omega
theorem tj_ca_lt {g : Nat → Nat} {v : Nat} (h : ∀ w, w < 5 → g w < 5) : ∀ w, w ≤ 5 → tj_ca g v w + 2 ≤ 3 * 5 ^ w := by
  intro w
  induction w with
  | zero => intro _; show 0 + 2 ≤ 3 * 1; omega
  | succ w ih =>
    intro hw
    have i := ih (by omega)
    have := h w (by omega)
    have x : (if w ≤ v then g w else 0) < 5 := by split <;> omega
    have y : (if w = v then 1 else 0) ≤ 1 := by split <;> omega
    show tj_ca g v w * 5 + (if w ≤ v then g w else 0) + (if w = v then 1 else 0) + 2 ≤ _
    rw [Nat.pow_succ]
    generalize (if w ≤ v then g w else 0) = x1 at x ⊢
    generalize (if w = v then 1 else 0) = y1 at y ⊢
    omega
/-- the marks agree: the counts agree -/
theorem tj_m_eq {A A' : Nat → Int32} {N : Nat} (h : ∀ k, k < N → A k = A' k) (P : Nat → Bool) : tj_k (fun k => tj_m A k && P k) 0 N = tj_k (fun k => tj_m A' k && P k) 0 N := by
  refine tj_k_eq (fun j _ hj => ?_)
  unfold tj_m
  rw [h j (by omega)]
end
section
/-! written by a program: comparisons and sums of nI with literals -/
theorem tj_le_0 {a : Nat} (h : a < 2 ^ 31) : (0 : Int32) ≤ nI a ↔ 0 ≤ a := nI_leI (a := 0) (by decide) h
theorem tj_ge_0 {a : Nat} (h : a < 2 ^ 31) : nI a ≤ (0 : Int32) ↔ a ≤ 0 := nI_leI (b := 0) h (by decide)
theorem tj_gt_0 {a : Nat} (h : a < 2 ^ 31) : (0 : Int32) < nI a ↔ 0 < a := nI_ltI (a := 0) (by decide) h
theorem tj_lt_0 {a : Nat} (h : a < 2 ^ 31) : nI a < (0 : Int32) ↔ a < 0 := nI_ltI (b := 0) h (by decide)
theorem tj_eq_0 {a : Nat} (h : a < 2 ^ 31) : nI a = (0 : Int32) ↔ a = 0 := nI_eq (b := 0) h (by decide)
theorem tj_le_1 {a : Nat} (h : a < 2 ^ 31) : (1 : Int32) ≤ nI a ↔ 1 ≤ a := nI_leI (a := 1) (by decide) h
theorem tj_ge_1 {a : Nat} (h : a < 2 ^ 31) : nI a ≤ (1 : Int32) ↔ a ≤ 1 := nI_leI (b := 1) h (by decide)
theorem tj_gt_1 {a : Nat} (h : a < 2 ^ 31) : (1 : Int32) < nI a ↔ 1 < a := nI_ltI (a := 1) (by decide) h
theorem tj_lt_1 {a : Nat} (h : a < 2 ^ 31) : nI a < (1 : Int32) ↔ a < 1 := nI_ltI (b := 1) h (by decide)
theorem tj_eq_1 {a : Nat} (h : a < 2 ^ 31) : nI a = (1 : Int32) ↔ a = 1 := nI_eq (b := 1) h (by decide)
theorem tj_le_2 {a : Nat} (h : a < 2 ^ 31) : (2 : Int32) ≤ nI a ↔ 2 ≤ a := nI_leI (a := 2) (by decide) h
theorem tj_ge_2 {a : Nat} (h : a < 2 ^ 31) : nI a ≤ (2 : Int32) ↔ a ≤ 2 := nI_leI (b := 2) h (by decide)
theorem tj_gt_2 {a : Nat} (h : a < 2 ^ 31) : (2 : Int32) < nI a ↔ 2 < a := nI_ltI (a := 2) (by decide) h
theorem tj_lt_2 {a : Nat} (h : a < 2 ^ 31) : nI a < (2 : Int32) ↔ a < 2 := nI_ltI (b := 2) h (by decide)
theorem tj_eq_2 {a : Nat} (h : a < 2 ^ 31) : nI a = (2 : Int32) ↔ a = 2 := nI_eq (b := 2) h (by decide)
theorem tj_le_3 {a : Nat} (h : a < 2 ^ 31) : (3 : Int32) ≤ nI a ↔ 3 ≤ a := nI_leI (a := 3) (by decide) h
theorem tj_ge_3 {a : Nat} (h : a < 2 ^ 31) : nI a ≤ (3 : Int32) ↔ a ≤ 3 := nI_leI (b := 3) h (by decide)
theorem tj_gt_3 {a : Nat} (h : a < 2 ^ 31) : (3 : Int32) < nI a ↔ 3 < a := nI_ltI (a := 3) (by decide) h
theorem tj_lt_3 {a : Nat} (h : a < 2 ^ 31) : nI a < (3 : Int32) ↔ a < 3 := nI_ltI (b := 3) h (by decide)
theorem tj_eq_3 {a : Nat} (h : a < 2 ^ 31) : nI a = (3 : Int32) ↔ a = 3 := nI_eq (b := 3) h (by decide)
theorem tj_le_4 {a : Nat} (h : a < 2 ^ 31) : (4 : Int32) ≤ nI a ↔ 4 ≤ a := nI_leI (a := 4) (by decide) h
theorem tj_ge_4 {a : Nat} (h : a < 2 ^ 31) : nI a ≤ (4 : Int32) ↔ a ≤ 4 := nI_leI (b := 4) h (by decide)
theorem tj_gt_4 {a : Nat} (h : a < 2 ^ 31) : (4 : Int32) < nI a ↔ 4 < a := nI_ltI (a := 4) (by decide) h
theorem tj_lt_4 {a : Nat} (h : a < 2 ^ 31) : nI a < (4 : Int32) ↔ a < 4 := nI_ltI (b := 4) h (by decide)
theorem tj_eq_4 {a : Nat} (h : a < 2 ^ 31) : nI a = (4 : Int32) ↔ a = 4 := nI_eq (b := 4) h (by decide)
theorem tj_le_5 {a : Nat} (h : a < 2 ^ 31) : (5 : Int32) ≤ nI a ↔ 5 ≤ a := nI_leI (a := 5) (by decide) h
theorem tj_ge_5 {a : Nat} (h : a < 2 ^ 31) : nI a ≤ (5 : Int32) ↔ a ≤ 5 := nI_leI (b := 5) h (by decide)
theorem tj_gt_5 {a : Nat} (h : a < 2 ^ 31) : (5 : Int32) < nI a ↔ 5 < a := nI_ltI (a := 5) (by decide) h
theorem tj_lt_5 {a : Nat} (h : a < 2 ^ 31) : nI a < (5 : Int32) ↔ a < 5 := nI_ltI (b := 5) h (by decide)
theorem tj_eq_5 {a : Nat} (h : a < 2 ^ 31) : nI a = (5 : Int32) ↔ a = 5 := nI_eq (b := 5) h (by decide)
theorem tj_le_16 {a : Nat} (h : a < 2 ^ 31) : (16 : Int32) ≤ nI a ↔ 16 ≤ a := nI_leI (a := 16) (by decide) h
theorem tj_ge_16 {a : Nat} (h : a < 2 ^ 31) : nI a ≤ (16 : Int32) ↔ a ≤ 16 := nI_leI (b := 16) h (by decide)
theorem tj_gt_16 {a : Nat} (h : a < 2 ^ 31) : (16 : Int32) < nI a ↔ 16 < a := nI_ltI (a := 16) (by decide) h
theorem tj_lt_16 {a : Nat} (h : a < 2 ^ 31) : nI a < (16 : Int32) ↔ a < 16 := nI_ltI (b := 16) h (by decide)
theorem tj_eq_16 {a : Nat} (h : a < 2 ^ 31) : nI a = (16 : Int32) ↔ a = 16 := nI_eq (b := 16) h (by decide)
theorem tj_le_24 {a : Nat} (h : a < 2 ^ 31) : (24 : Int32) ≤ nI a ↔ 24 ≤ a := nI_leI (a := 24) (by decide) h
theorem tj_ge_24 {a : Nat} (h : a < 2 ^ 31) : nI a ≤ (24 : Int32) ↔ a ≤ 24 := nI_leI (b := 24) h (by decide)
theorem tj_gt_24 {a : Nat} (h : a < 2 ^ 31) : (24 : Int32) < nI a ↔ 24 < a := nI_ltI (a := 24) (by decide) h
theorem tj_lt_24 {a : Nat} (h : a < 2 ^ 31) : nI a < (24 : Int32) ↔ a < 24 := nI_ltI (b := 24) h (by decide)
theorem tj_eq_24 {a : Nat} (h : a < 2 ^ 31) : nI a = (24 : Int32) ↔ a = 24 := nI_eq (b := 24) h (by decide)
theorem tj_le_25 {a : Nat} (h : a < 2 ^ 31) : (25 : Int32) ≤ nI a ↔ 25 ≤ a := nI_leI (a := 25) (by decide) h
theorem tj_ge_25 {a : Nat} (h : a < 2 ^ 31) : nI a ≤ (25 : Int32) ↔ a ≤ 25 := nI_leI (b := 25) h (by decide)
theorem tj_gt_25 {a : Nat} (h : a < 2 ^ 31) : (25 : Int32) < nI a ↔ 25 < a := nI_ltI (a := 25) (by decide) h
theorem tj_lt_25 {a : Nat} (h : a < 2 ^ 31) : nI a < (25 : Int32) ↔ a < 25 := nI_ltI (b := 25) h (by decide)
theorem tj_eq_25 {a : Nat} (h : a < 2 ^ 31) : nI a = (25 : Int32) ↔ a = 25 := nI_eq (b := 25) h (by decide)
theorem tj_le_31 {a : Nat} (h : a < 2 ^ 31) : (31 : Int32) ≤ nI a ↔ 31 ≤ a := nI_leI (a := 31) (by decide) h
theorem tj_ge_31 {a : Nat} (h : a < 2 ^ 31) : nI a ≤ (31 : Int32) ↔ a ≤ 31 := nI_leI (b := 31) h (by decide)
theorem tj_gt_31 {a : Nat} (h : a < 2 ^ 31) : (31 : Int32) < nI a ↔ 31 < a := nI_ltI (a := 31) (by decide) h
theorem tj_lt_31 {a : Nat} (h : a < 2 ^ 31) : nI a < (31 : Int32) ↔ a < 31 := nI_ltI (b := 31) h (by decide)
theorem tj_eq_31 {a : Nat} (h : a < 2 ^ 31) : nI a = (31 : Int32) ↔ a = 31 := nI_eq (b := 31) h (by decide)
theorem tj_le_124 {a : Nat} (h : a < 2 ^ 31) : (124 : Int32) ≤ nI a ↔ 124 ≤ a := nI_leI (a := 124) (by decide) h
theorem tj_ge_124 {a : Nat} (h : a < 2 ^ 31) : nI a ≤ (124 : Int32) ↔ a ≤ 124 := nI_leI (b := 124) h (by decide)
theorem tj_gt_124 {a : Nat} (h : a < 2 ^ 31) : (124 : Int32) < nI a ↔ 124 < a := nI_ltI (a := 124) (by decide) h
theorem tj_lt_124 {a : Nat} (h : a < 2 ^ 31) : nI a < (124 : Int32) ↔ a < 124 := nI_ltI (b := 124) h (by decide)
theorem tj_eq_124 {a : Nat} (h : a < 2 ^ 31) : nI a = (124 : Int32) ↔ a = 124 := nI_eq (b := 124) h (by decide)
theorem tj_le_125 {a : Nat} (h : a < 2 ^ 31) : (125 : Int32) ≤ nI a ↔ 125 ≤ a := nI_leI (a := 125) (by decide) h
theorem tj_ge_125 {a : Nat} (h : a < 2 ^ 31) : nI a ≤ (125 : Int32) ↔ a ≤ 125 := nI_leI (b := 125) h (by decide)
theorem tj_gt_125 {a : Nat} (h : a < 2 ^ 31) : (125 : Int32) < nI a ↔ 125 < a := nI_ltI (a := 125) (by decide) h
theorem tj_lt_125 {a : Nat} (h : a < 2 ^ 31) : nI a < (125 : Int32) ↔ a < 125 := nI_ltI (b := 125) h (by decide)
theorem tj_eq_125 {a : Nat} (h : a < 2 ^ 31) : nI a = (125 : Int32) ↔ a = 125 := nI_eq (b := 125) h (by decide)
theorem tj_le_156 {a : Nat} (h : a < 2 ^ 31) : (156 : Int32) ≤ nI a ↔ 156 ≤ a := nI_leI (a := 156) (by decide) h
theorem tj_ge_156 {a : Nat} (h : a < 2 ^ 31) : nI a ≤ (156 : Int32) ↔ a ≤ 156 := nI_leI (b := 156) h (by decide)
theorem tj_gt_156 {a : Nat} (h : a < 2 ^ 31) : (156 : Int32) < nI a ↔ 156 < a := nI_ltI (a := 156) (by decide) h
theorem tj_lt_156 {a : Nat} (h : a < 2 ^ 31) : nI a < (156 : Int32) ↔ a < 156 := nI_ltI (b := 156) h (by decide)
theorem tj_eq_156 {a : Nat} (h : a < 2 ^ 31) : nI a = (156 : Int32) ↔ a = 156 := nI_eq (b := 156) h (by decide)
theorem tj_le_375 {a : Nat} (h : a < 2 ^ 31) : (375 : Int32) ≤ nI a ↔ 375 ≤ a := nI_leI (a := 375) (by decide) h
theorem tj_ge_375 {a : Nat} (h : a < 2 ^ 31) : nI a ≤ (375 : Int32) ↔ a ≤ 375 := nI_leI (b := 375) h (by decide)
theorem tj_gt_375 {a : Nat} (h : a < 2 ^ 31) : (375 : Int32) < nI a ↔ 375 < a := nI_ltI (a := 375) (by decide) h
theorem tj_lt_375 {a : Nat} (h : a < 2 ^ 31) : nI a < (375 : Int32) ↔ a < 375 := nI_ltI (b := 375) h (by decide)
theorem tj_eq_375 {a : Nat} (h : a < 2 ^ 31) : nI a = (375 : Int32) ↔ a = 375 := nI_eq (b := 375) h (by decide)
theorem tj_le_468 {a : Nat} (h : a < 2 ^ 31) : (468 : Int32) ≤ nI a ↔ 468 ≤ a := nI_leI (a := 468) (by decide) h
theorem tj_ge_468 {a : Nat} (h : a < 2 ^ 31) : nI a ≤ (468 : Int32) ↔ a ≤ 468 := nI_leI (b := 468) h (by decide)
theorem tj_gt_468 {a : Nat} (h : a < 2 ^ 31) : (468 : Int32) < nI a ↔ 468 < a := nI_ltI (a := 468) (by decide) h
theorem tj_lt_468 {a : Nat} (h : a < 2 ^ 31) : nI a < (468 : Int32) ↔ a < 468 := nI_ltI (b := 468) h (by decide)
theorem tj_eq_468 {a : Nat} (h : a < 2 ^ 31) : nI a = (468 : Int32) ↔ a = 468 := nI_eq (b := 468) h (by decide)
theorem tj_le_3125 {a : Nat} (h : a < 2 ^ 31) : (3125 : Int32) ≤ nI a ↔ 3125 ≤ a := nI_leI (a := 3125) (by decide) h
theorem tj_ge_3125 {a : Nat} (h : a < 2 ^ 31) : nI a ≤ (3125 : Int32) ↔ a ≤ 3125 := nI_leI (b := 3125) h (by decide)
theorem tj_gt_3125 {a : Nat} (h : a < 2 ^ 31) : (3125 : Int32) < nI a ↔ 3125 < a := nI_ltI (a := 3125) (by decide) h
theorem tj_lt_3125 {a : Nat} (h : a < 2 ^ 31) : nI a < (3125 : Int32) ↔ a < 3125 := nI_ltI (b := 3125) h (by decide)
theorem tj_eq_3125 {a : Nat} (h : a < 2 ^ 31) : nI a = (3125 : Int32) ↔ a = 3125 := nI_eq (b := 3125) h (by decide)
theorem tj_mr_2 (a : Nat) : nI a * (2 : Int32) = nI (a * 2) := pk_mul a 2
theorem tj_ml_2 (a : Nat) : (2 : Int32) * nI a = nI (2 * a) := pk_mul 2 a
theorem tj_mr_3 (a : Nat) : nI a * (3 : Int32) = nI (a * 3) := pk_mul a 3
theorem tj_ml_3 (a : Nat) : (3 : Int32) * nI a = nI (3 * a) := pk_mul 3 a
theorem tj_mr_4 (a : Nat) : nI a * (4 : Int32) = nI (a * 4) := pk_mul a 4
theorem tj_ml_4 (a : Nat) : (4 : Int32) * nI a = nI (4 * a) := pk_mul 4 a
theorem tj_mr_5 (a : Nat) : nI a * (5 : Int32) = nI (a * 5) := pk_mul a 5
theorem tj_ml_5 (a : Nat) : (5 : Int32) * nI a = nI (5 * a) := pk_mul 5 a
theorem tj_mr_25 (a : Nat) : nI a * (25 : Int32) = nI (a * 25) := pk_mul a 25
theorem tj_ml_25 (a : Nat) : (25 : Int32) * nI a = nI (25 * a) := pk_mul 25 a
theorem tj_mr_125 (a : Nat) : nI a * (125 : Int32) = nI (a * 125) := pk_mul a 125
theorem tj_ml_125 (a : Nat) : (125 : Int32) * nI a = nI (125 * a) := pk_mul 125 a
theorem tj_mr_156 (a : Nat) : nI a * (156 : Int32) = nI (a * 156) := pk_mul a 156
theorem tj_ml_156 (a : Nat) : (156 : Int32) * nI a = nI (156 * a) := pk_mul 156 a
theorem tj_al_1 (a : Nat) : (1 : Int32) + nI a = nI (1 + a) := nI_add 1 a
theorem tj_ar_1 (a : Nat) : nI a + (1 : Int32) = nI (a + 1) := nI_add a 1
theorem tj_al_4 (a : Nat) : (4 : Int32) + nI a = nI (4 + a) := nI_add 4 a
theorem tj_ar_4 (a : Nat) : nI a + (4 : Int32) = nI (a + 4) := nI_add a 4
theorem tj_al_6 (a : Nat) : (6 : Int32) + nI a = nI (6 + a) := nI_add 6 a
theorem tj_ar_6 (a : Nat) : nI a + (6 : Int32) = nI (a + 6) := nI_add a 6
theorem tj_al_31 (a : Nat) : (31 : Int32) + nI a = nI (31 + a) := nI_add 31 a
theorem tj_ar_31 (a : Nat) : nI a + (31 : Int32) = nI (a + 31) := nI_add a 31
theorem tj_dv_4 {a : Nat} (h : a < 2 ^ 31) : nI a / (4 : Int32) = nI (a / 4) := pk_div (d := 4) h (by decide) (by decide)
theorem tj_rm_4 (a : Nat) : nI a - nI (a / 4 * 4) = nI (a % 4) := by
  rw [pk_sub (Nat.div_mul_le_self a 4)]
  exact congrArg nI (by omega)
theorem tj_dv_5 {a : Nat} (h : a < 2 ^ 31) : nI a / (5 : Int32) = nI (a / 5) := pk_div (d := 5) h (by decide) (by decide)
theorem tj_rm_5 (a : Nat) : nI a - nI (a / 5 * 5) = nI (a % 5) := by
  rw [pk_sub (Nat.div_mul_le_self a 5)]
  exact congrArg nI (by omega)
theorem tj_s1 {a : Nat} (h : 0 < a) : nI a - 1 = nI (a - 1) := pk_sub (b := 1) h
theorem tj_m1 {a : Nat} (h : 0 < a) : nI a + (-1) = nI (a - 1) := by
  obtain ⟨m, rfl⟩ : ∃ m, a = m + 1 := ⟨a - 1, by omega⟩
  exact pk_m1 m
theorem tj_1s {a : Nat} (h : a ≤ 1) : 1 - nI a = nI (1 - a) := pk_sub (a := 1) h
theorem tj_4s {a : Nat} (h : a ≤ 4) : 4 - nI a = nI (4 - a) := pk_sub (a := 4) h
theorem tj_vb0 : vp_nar .boolean 0 = 0 := by decide
theorem tj_vb1 : vp_nar .boolean 1 = 1 := by decide
theorem tj_nb0 : narrow .boolean (.int 0) = .int 0 := rfl
theorem tj_nb1 : narrow .boolean (.int 1) = .int 1 := rfl
theorem tj_Ap (f : Nat → Nat) (j : Nat) : tj_A f j = nI (f j) := rfl
theorem tj_neg {a : Nat} (h : a < 2 ^ 31) : ¬ nI a < 0 := nI_pos h
theorem tj_neg_ne {a : Nat} (h : a < 2 ^ 31) {x : Int32} (hx : x < 0) : ¬ nI a = x := by
  intro e
  rw [← e] at hx
  exact nI_pos h hx
end
section
/-! X: small methods -/
theorem tj_e156 (r x : Nat) : nI r * 156 + nI x = nI (156 * r + x) := by rw [tj_mr_156, nI_add, Nat.mul_comm]
theorem tj_e4 (q i : Nat) : nI q * 4 + nI i = nI (4 * q + i) := by rw [tj_mr_4, nI_add, Nat.mul_comm]
theorem tj_e3 (p c : Nat) : nI p * 3 + nI c = nI (3 * p + c) := by rw [tj_mr_3, nI_add, Nat.mul_comm]
theorem tj_e125 (r k : Nat) : 125 * nI r + nI k = nI (125 * r + k) := by rw [tj_ml_125, nI_add]
theorem tj_f4 (q i : Nat) : 4 * nI q + nI i = nI (4 * q + i) := by rw [tj_ml_4, nI_add]
theorem tj_n2 {r : Nat} (hr : r < 3) (h : r ≠ 2) : ¬ nI r = 2 := fun z => h ((tj_eq_2 (by omega)).mp z)
section
variable {post : Int32 → Prop}
theorem xx_isQ {q : Nat} (hq : q < 2) (h : post 1) : wpX_isQuestion post (nI q) :=
  br_f (nI_pos (by omega)) (br_f (nI_ge (b := 2) hq (by decide)) h)
theorem xx_nQ {q : Int32} (hq : ∀ j, j < 2 → q ≠ nI j) (h : post 0) : wpX_isQuestion post q := by
  rcases pk_ix q (n := 2) (by decide) with z | z | ⟨j, hj, e⟩
  · exact br_t z h
  · exact br_c (fun _ => h) (fun _ => br_t z h)
  · exact absurd e (hq j hj)
theorem xx_isR {r : Nat} (hr : r < 3) (h : post 1) : wpX_isRelation post (nI r) :=
  br_f (nI_pos (by omega)) (br_f (nI_ge (b := 3) hr (by decide)) h)
theorem xx_nR {r : Int32} (hr : ∀ j, j < 3 → r ≠ nI j) (h : post 0) : wpX_isRelation post r := by
  rcases pk_ix r (n := 3) (by decide) with z | z | ⟨j, hj, e⟩
  · exact br_t z h
  · exact br_c (fun _ => h) (fun _ => br_t z h)
  · exact absurd e (hr j hj)
theorem xx_isRow {r row : Nat} (hr : r < 3) (hw : row < tj_n r) (h : post 1) : wpX_isRow post (nI r) (nI row) := by
  have hn : tj_n r ≤ 125 := by rcases tj_on r with ⟨_, _, _, _⟩ | ⟨_, _, _, _⟩ <;> omega
  unfold wpX_isRow
  refine xx_isR hr (br_f (by decide) (br_f (nI_pos (by omega)) ?_))
  rcases tj_on r with ⟨e, _, n, _⟩ | ⟨e, _, n, _⟩
  · subst e
    exact br_t rfl (br_f (nI_ge (b := 125) (by omega) (by decide)) h)
  · exact br_f (tj_n2 hr e) (br_f (nI_ge (b := 25) (by omega) (by decide)) h)
theorem xx_nRow {r row : Int32} (hn : ∀ a b, a < 3 → b < tj_n a → r = nI a → row ≠ nI b) (h : post 0) : wpX_isRow post r row := by
  unfold wpX_isRow
  by_cases hr : ∃ a, a < 3 ∧ r = nI a
  · obtain ⟨a, ha, e⟩ := hr
    subst e
    have h5 : tj_n a ≤ 125 := by rcases tj_on a with ⟨_, _, _, _⟩ | ⟨_, _, _, _⟩ <;> omega
    refine xx_isR ha (br_f (by decide) ?_)
    rcases pk_ix row (n := tj_n a) (by omega) with z | z | ⟨j, hj, e⟩
    · exact br_t z h
    · refine br_c (fun _ => h) (fun _ => ?_)
      rcases tj_on a with ⟨e, _, n, _⟩ | ⟨e, _, n, _⟩
      · rw [n] at z
        subst e
        exact br_t rfl (br_t z h)
      · rw [n] at z
        exact br_f (tj_n2 ha e) (br_t z h)
    · exact absurd e (hn a j ha hj rfl)
  · exact xx_nR (fun j hj e => hr ⟨j, hj, e⟩) (br_t rfl h)
theorem xx_lit {r row : Nat} (hr : r < 3) (h : post (nI (tj_o r + row))) : wpX_leafInTrie post (nI r) (nI row) := by
  rcases tj_on r with ⟨e, _, _, o⟩ | ⟨e, _, _, o⟩
  · subst e
    rw [o, ← tj_al_31] at h
    exact br_t rfl h
  · rw [o, ← tj_al_6] at h
    exact br_f (tj_n2 hr e) h
theorem xx_leaf {r row : Nat} (hr : r < 3) (h : post (nI (tj_LX r row))) : wpX_leaf post (nI r) (nI row) := by
  unfold wpX_leaf
  refine xx_lit hr ?_
  show post (nI r * 156 + nI (tj_o r + row))
  rw [tj_e156]
  exact h
theorem xx_cols {r : Nat} (hr : r < 3) (h : post (nI (tj_w r))) : wpX_columns post (nI r) := by
  rcases tj_on r with ⟨e, w, _, _⟩ | ⟨e, w, _, _⟩
  · rw [w] at h
    subst e
    exact br_t rfl h
  · rw [w] at h
    exact br_f (tj_n2 hr e) h
theorem xx_has {s m : Nat} (hs : s < 2 ^ 31) (hm : m < 32) (f : s.testBit m = true → post 1) (g : s.testBit m = false → post 0) : wpX_has post (nI s) (nI m) :=
  tj_hasP hs hm f g
theorem xx_size_l {s : Nat} (hs : s < 2 ^ 31) : ∀ n i, i ≤ 4 → 4 - i < n → post (nI (tj_zs s 4)) → wX_sizeOf_4 post (nI s) n (nI (tj_zs s i)) (nI i) := by
  intro n
  induction n with
  | zero => intro i _ h; omega
  | succ n ih =>
    intro i hi hn h
    rcases Nat.lt_or_ge i 4 with z | z
    · refine br_f (nI_ge (b := 4) z (by decide)) (nm_r (e' := nI (tj_zs s (i + 1))) ?_ (nm_r (nI_1 i) (ih (i + 1) (by omega) (by omega) h)))
      rw [tj_bitv hs (by omega), nI_add]
      rfl
    · have e : i = 4 := by omega
      subst e
      exact br_t (by decide) h
theorem xx_size {s : Nat} (hs : s < 16) (h : post (nI (tj_s s))) : wpX_sizeOf post (nI s) := by
  rw [← tj_zs_4] at h
  exact ⟨5, xx_size_l (by omega) 5 0 (by omega) (by omega) h⟩
theorem xx_dig_l {num place : Nat} (hn : num < 2 ^ 31) (hp : place < 2 ^ 31) : ∀ n p, p ≤ place → place - p < n → post (nI (num / 5 ^ place % 5)) → wX_digit_4 post (nI place) n (nI (num / 5 ^ p)) (nI p) := by
  have hb : ∀ p, num / 5 ^ p < 2 ^ 31 := fun p => Nat.lt_of_le_of_lt (Nat.div_le_self _ _) hn
  intro n
  induction n with
  | zero => intro p _ h; omega
  | succ n ih =>
    intro p h1 h2 h
    rcases Nat.lt_or_ge p place with z | z
    · refine br_f (nI_ge z hp) ⟨by decide, nm_r (e' := nI (num / 5 ^ (p + 1))) ?_ (nm_r (nI_1 p) (ih (p + 1) (by omega) (by omega) h))⟩
      rw [tj_dv_5 (hb p), Nat.div_div_eq_div_mul, ← Nat.pow_succ]
    · have e : p = place := by omega
      subst e
      refine br_t (nI_le (Nat.le_refl p) hp) ⟨by decide, ?_⟩
      have e := pk_rem (d := 5) (hb p) (by decide) (by decide)
      show post (nI (num / 5 ^ p) - nI (num / 5 ^ p) / nI 5 * nI 5)
      rw [e]
      exact h
theorem xx_dig {num place : Nat} (hn : num < 2 ^ 31) (hp : place < 2 ^ 31) (h : post (nI (num / 5 ^ place % 5))) : wpX_digit post (nI num) (nI place) := by
  have := xx_dig_l hn hp (place + 1) 0 (by omega) (by omega) h
  rw [Nat.pow_zero, Nat.div_one] at this
  exact ⟨_, this⟩
end
section
variable {post : Int32 → Prop} {L : Int32} {B W G A M : Nat → Int32} {cn ak rl vr : Nat → Nat}
theorem xx_all {q : Nat} (hq : q < 2) (hc : cn q ≤ 4) (h : post (nI (2 ^ cn q - 1))) : wpX_allAtoms post (L, B, tj_A cn, tj_A ak, tj_A rl, tj_A vr, W, G, A, M) (nI q) := by
  refine ⟨vp_in_nI hq (by decide), ?_⟩
  show post (((1 : Int32) <<< ((tj_A cn (nI q).toNatClampNeg) &&& 31)) - 1)
  rw [nI_clamp (by omega), tj_Ap, tj_shl (by omega), tj_s1 (Nat.two_pow_pos _)]
  exact h
theorem xx_vo_in {J : Int32 → Int32 → Prop} {x1 x2 : Int32} {i p r vs acc : Nat} (hp : p < 8) (hW : ∀ c, c < tj_w r → W (3 * p + c) = nI (tj_c r vs c)) : ∀ n c, c ≤ tj_w r → tj_w r - c < n → J (nI (acc ||| tj_sp r vs (tj_w r))) (nI (i + 1)) →
    wX_variablesOf_43 post J x1 x2 (nI i) (nI p) (nI (tj_w r)) L B (tj_A cn) (tj_A ak) (tj_A rl) (tj_A vr) W G A M n (nI (acc ||| tj_sp r vs c)) (nI c) := by
  have hw : tj_w r ≤ 3 := by rcases tj_w_2 r with h | h <;> omega
  intro n
  induction n with
  | zero => intro c _ h; omega
  | succ n ih =>
    intro c h1 h2 h
    rcases Nat.lt_or_ge c (tj_w r) with z | z
    · refine br_f (nI_ge z (by omega)) ⟨pk_in (3 * p + c) 24 (by omega) (tj_e3 p c), nm_r (e' := nI (acc ||| tj_sp r vs (c + 1))) ?_ (nm_r (nI_1 c) (ih (c + 1) (by omega) (by omega) h))⟩
      have := tj_c_lt r vs c
      rw [tj_e3, nI_clamp (by omega), hW c z, tj_shl (by omega), tj_or, Nat.or_assoc]
      rfl
    · have e : c = tj_w r := by omega
      rw [e]
      exact br_t (nI_le (Nat.le_refl _) (by omega)) (nm_r (nI_1 i) h)
theorem xx_vo_out {q s : Nat} (hq : q < 2) (hs : s < 2 ^ 31) (ha : tj_At rl vr W) : ∀ n i, i ≤ 4 → 4 - i < n → post (nI (tj_vo (fun i => tj_so (rl (4 * q + i)) (vr (4 * q + i))) s 4)) →
    wX_variablesOf_5 post (nI q) (nI s) L B (tj_A cn) (tj_A ak) (tj_A rl) (tj_A vr) W G A M n (nI (tj_vo (fun i => tj_so (rl (4 * q + i)) (vr (4 * q + i))) s i)) (nI i) := by
  intro n
  induction n with
  | zero => intro i _ h; omega
  | succ n ih =>
    intro i h1 h2 h
    rcases Nat.lt_or_ge i 4 with z | z
    · have k := ih (i + 1) (by omega) (by omega) h
      obtain ⟨a1, a2, a3⟩ := ha (4 * q + i) (by omega)
      refine br_f (nI_ge (b := 4) z (by decide)) (xx_has hs (by omega) (fun ht => br_f (by decide) (nm_r (tj_e4 q i) ⟨vp_in_nI (by omega) (by decide), ?_⟩)) (fun hf => br_t rfl (nm_r (nI_1 i) ?_)))
      · show wpX_columns _ (tj_A rl (nI (4 * q + i)).toNatClampNeg)
        rw [nI_clamp (by omega), tj_Ap]
        refine xx_cols a1 ⟨tj_w (rl (4 * q + i)) + 1, ?_⟩
        have j := xx_vo_in (post := post) (L := L) (B := B) (W := W) (G := G) (A := A) (M := M) (cn := cn) (ak := ak) (rl := rl) (vr := vr) (J := wX_variablesOf_5 post (nI q) (nI s) L B (tj_A cn) (tj_A ak) (tj_A rl) (tj_A vr) W G A M n) (x1 := nI q) (x2 := nI s) (i := i) (p := 4 * q + i) (acc := tj_vo (fun i => tj_so (rl (4 * q + i)) (vr (4 * q + i))) s i) (by omega) a3 (tj_w (rl (4 * q + i)) + 1) 0 (by omega) (by omega)
        have e : tj_sp (rl (4 * q + i)) (vr (4 * q + i)) 0 = 0 := rfl
        rw [e, Nat.or_zero] at j
        refine j ?_
        have e2 : tj_vo (fun i => tj_so (rl (4 * q + i)) (vr (4 * q + i))) s (i + 1) = tj_vo (fun i => tj_so (rl (4 * q + i)) (vr (4 * q + i))) s i ||| tj_sp (rl (4 * q + i)) (vr (4 * q + i)) (tj_w (rl (4 * q + i))) := if_pos ht
        rw [e2] at k
        exact k
      · have e2 : tj_vo (fun i => tj_so (rl (4 * q + i)) (vr (4 * q + i))) s (i + 1) = tj_vo (fun i => tj_so (rl (4 * q + i)) (vr (4 * q + i))) s i := if_neg (by rw [hf]; decide)
        rw [e2] at k
        exact k
    · have e : i = 4 := by omega
      subst e
      exact br_t (by decide) h
theorem xx_vo {q s : Nat} (hq : q < 2) (hs : s < 2 ^ 31) (ha : tj_At rl vr W) (h : post (nI (tj_vo (fun i => tj_so (rl (4 * q + i)) (vr (4 * q + i))) s 4))) : wpX_variablesOf post (L, B, tj_A cn, tj_A ak, tj_A rl, tj_A vr, W, G, A, M) (nI q) (nI s) :=
  ⟨5, xx_vo_out hq hs ha 5 0 (by omega) (by omega) h⟩
end
end
section
/-! X: marks and choices -/
def tj_wh (cn ak rl vr : Nat → Nat) (q : Nat) : Prop := cn q ≠ 0 ∧ tj_mi (ak q) (tj_vo (fun i => tj_so (rl (4 * q + i)) (vr (4 * q + i))) (2 ^ cn q - 1) (cn q)) = 0
def tj_Gv (G : Nat → Int32) (code : Nat) : Prop := ∀ v, v < 5 → G v = nI (tj_g code v)
theorem tj_p1 {n : Nat} (h : n ≤ 4) : 2 ^ n - 1 < 2 ^ n ∧ 2 ^ n ≤ 16 ∧ (2 ^ n - 1 = 0 ↔ n = 0) := by
  have : n = 0 ∨ n = 1 ∨ n = 2 ∨ n = 3 ∨ n = 4 := by omega
  rcases this with rfl | rfl | rfl | rfl | rfl <;> decide
theorem tj_so_lt (r vs : Nat) : tj_so r vs < 32 := tj_sp_lt _
section
variable {post : Int32 → Prop} {L : Int32} {B W G A M : Nat → Int32} {cn ak rl vr : Nat → Nat}
theorem xx_isWhole {q : Nat} (hq : q < 2) (hc : cn q ≤ 4) (hk : ak q < 32) (ha : tj_At rl vr W) (h1 : tj_wh cn ak rl vr q → post 1) (h0 : ¬ tj_wh cn ak rl vr q → post 0) : wpX_isWhole post (L, B, tj_A cn, tj_A ak, tj_A rl, tj_A vr, W, G, A, M) (nI q) := by
  obtain ⟨p1, p2, p3⟩ := tj_p1 hc
  unfold wpX_isWhole
  refine xx_all hq hc ?_
  by_cases z : cn q = 0
  · exact br_t (by rw [p3.mpr z]; rfl) (h0 (fun w => w.1 z))
  · refine br_f (fun e => z (p3.mp ((tj_eq_0 (by omega)).mp e))) ⟨vp_in_nI hq (by decide), xx_vo hq (by omega) ha ?_⟩
    show ((tj_A ak (nI q).toNatClampNeg &&& (nI _ ^^^ (-1))) = 0 → post 1) ∧ (¬ (tj_A ak (nI q).toNatClampNeg &&& (nI _ ^^^ (-1))) = 0 → post 0)
    have l := tj_vo_lt (f := (fun i => tj_so (rl (4 * q + i)) (vr (4 * q + i)))) (s := 2 ^ cn q - 1) (fun i => tj_so_lt _ _) 4
    rw [nI_clamp (by omega), tj_Ap, tj_miI _ hk _ l, tj_eq_0 (Nat.lt_trans (tj_mi_lt hk) (by decide)), tj_vo_4 p1 hc]
    exact br_c (fun w => h1 ⟨z, w⟩) (fun w => h0 (fun y => w y.2))
theorem xx_after_l {q v : Nat} (hq : q < 2) (hk : ak q < 32) (hv : v < 5) : ∀ n j, v + 1 + j ≤ 5 → 4 - v - j < n → post (nI (tj_k (fun w => (ak q).testBit w) (v + 1) (4 - v))) →
    wX_askedAfter_7 post (nI q) L B (tj_A cn) (tj_A ak) (tj_A rl) (tj_A vr) W G A M n (nI (tj_k (fun w => (ak q).testBit w) (v + 1) j)) (nI (v + 1 + j)) := by
  intro n
  induction n with
  | zero => intro j _ h; omega
  | succ n ih =>
    intro j h1 h2 h
    rcases Nat.lt_or_ge (v + 1 + j) 5 with z | z
    · have k := ih (j + 1) (by omega) (by omega) h
      refine br_f (nI_ge (b := 5) z (by decide)) ⟨vp_in_nI hq (by decide), ?_⟩
      show wpX_has _ (tj_A ak (nI q).toNatClampNeg) _
      rw [nI_clamp (by omega), tj_Ap]
      refine xx_has (by omega) (by omega) (fun ht => br_f (by decide) (nm_r (nI_1 _) (nm_r (nI_1 _) ?_))) (fun hf => br_t rfl (nm_r (nI_1 _) ?_))
      · have e : tj_k (fun w => (ak q).testBit w) (v + 1) (j + 1) = tj_k (fun w => (ak q).testBit w) (v + 1) j + 1 := by
          show tj_k (fun w => (ak q).testBit w) (v + 1) j + (if (ak q).testBit (v + 1 + j) = true then 1 else 0) = _
          rw [if_pos ht]
        rw [e] at k
        exact k
      · have e : tj_k (fun w => (ak q).testBit w) (v + 1) (j + 1) = tj_k (fun w => (ak q).testBit w) (v + 1) j := by
          show tj_k (fun w => (ak q).testBit w) (v + 1) j + (if (ak q).testBit (v + 1 + j) = true then 1 else 0) = _
          rw [if_neg (by rw [hf]; decide)]
          rfl
        rw [e] at k
        exact k
    · have e : j = 4 - v := by omega
      subst e
      have e5 : v + 1 + (4 - v) = 5 := by omega
      rw [e5]
      exact br_t (by decide) h
theorem xx_after {q v : Nat} (hq : q < 2) (hk : ak q < 32) (hv : v < 5) (h : post (nI (tj_k (fun w => (ak q).testBit w) (v + 1) (4 - v)))) : wpX_askedAfter post (L, B, tj_A cn, tj_A ak, tj_A rl, tj_A vr, W, G, A, M) (nI q) (nI v) :=
  nm_r (nI_1 v) ⟨5, xx_after_l hq hk hv 5 0 (by omega) (by omega) h⟩
theorem xx_row_l {p r vs code : Nat} (hp : p < 8) (hW : ∀ c, c < tj_w r → W (3 * p + c) = nI (tj_c r vs c)) (hG : tj_Gv G code) : ∀ n c, c ≤ tj_w r → tj_w r - c < n → post (nI (tj_rp r vs (tj_g code) (tj_w r))) →
    wX_givenRow_15 post (nI p) (nI (tj_w r)) L B (tj_A cn) (tj_A ak) (tj_A rl) (tj_A vr) W G A M n (nI (tj_rp r vs (tj_g code) c)) (nI c) := by
  have hw : tj_w r ≤ 3 := by rcases tj_w_2 r with h | h <;> omega
  intro n
  induction n with
  | zero => intro c _ h; omega
  | succ n ih =>
    intro c h1 h2 h
    rcases Nat.lt_or_ge c (tj_w r) with z | z
    · have := tj_c_lt r vs c
      have eW : W ((nI p * 3 + nI c).toNatClampNeg) = nI (tj_c r vs c) := by rw [tj_e3, nI_clamp (by omega), hW c z]
      refine br_f (nI_ge z (by omega)) ⟨pk_in (3 * p + c) 24 (by omega) (tj_e3 p c), by rw [eW]; exact vp_in_nI this (by decide), nm_r (e' := nI (tj_rp r vs (tj_g code) (c + 1))) ?_ (nm_r (nI_1 c) (ih (c + 1) (by omega) (by omega) h))⟩
      rw [eW, nI_clamp (by omega), hG _ this, tj_mr_5, nI_add, Nat.mul_comm]
      rfl
    · have e : c = tj_w r := by omega
      rw [e]
      exact br_t (nI_le (Nat.le_refl _) (by omega)) h
theorem xx_row {p code : Nat} (hp : p < 8) (ha : tj_At rl vr W) (hG : tj_Gv G code) (h : post (nI (tj_row (rl p) (vr p) (tj_g code)))) : wpX_givenRow post (L, B, tj_A cn, tj_A ak, tj_A rl, tj_A vr, W, G, A, M) (nI p) := by
  obtain ⟨a1, a2, a3⟩ := ha p hp
  refine ⟨vp_in_nI hp (by decide), ?_⟩
  show wpX_columns _ (tj_A rl (nI p).toNatClampNeg)
  rw [nI_clamp (by omega), tj_Ap]
  exact xx_cols a1 ⟨tj_w (rl p) + 1, xx_row_l hp a3 hG _ 0 (by omega) (by omega) h⟩
theorem xx_gta_l {q code : Nat} (hq : q < 2) (hk : ak q < 32) (hG : tj_Gv G code) : ∀ n v, v ≤ 5 → 5 - v < n → post (nI (tj_ao (ak q) (tj_g code) 5)) →
    wX_givenToAsked_4 post (nI q) L B (tj_A cn) (tj_A ak) (tj_A rl) (tj_A vr) W G A M n (nI (tj_ao (ak q) (tj_g code) v)) (nI v) := by
  intro n
  induction n with
  | zero => intro v _ h; omega
  | succ n ih =>
    intro v h1 h2 h
    rcases Nat.lt_or_ge v 5 with z | z
    · have k := ih (v + 1) (by omega) (by omega) h
      refine br_f (nI_ge (b := 5) z (by decide)) ⟨vp_in_nI hq (by decide), ?_⟩
      show wpX_has _ (tj_A ak (nI q).toNatClampNeg) _
      rw [nI_clamp (n := q) (by omega), tj_Ap]
      refine xx_has (by omega) (by omega) (fun ht => br_f (by decide) ⟨vp_in_nI z (by decide), nm_r (e' := nI (tj_ao (ak q) (tj_g code) (v + 1))) ?_ (nm_r (nI_1 v) k)⟩) (fun hf => br_t rfl (nm_r (nI_1 v) ?_))
      · rw [nI_clamp (by omega), hG v z, tj_mr_5, nI_add, Nat.mul_comm]
        have e : tj_ao (ak q) (tj_g code) (v + 1) = 5 * tj_ao (ak q) (tj_g code) v + tj_g code v := if_pos ht
        rw [e]
      · have e : tj_ao (ak q) (tj_g code) (v + 1) = tj_ao (ak q) (tj_g code) v := if_neg (by rw [hf]; decide)
        rw [e] at k
        exact k
    · have e : v = 5 := by omega
      subst e
      exact br_t (by decide) h
theorem xx_gta {q code : Nat} (hq : q < 2) (hk : ak q < 32) (hG : tj_Gv G code) (h : post (nI (tj_ao (ak q) (tj_g code) 5))) : wpX_givenToAsked post (L, B, tj_A cn, tj_A ak, tj_A rl, tj_A vr, W, G, A, M) (nI q) :=
  ⟨6, xx_gta_l hq hk hG 6 0 (by omega) (by omega) h⟩
theorem xx_ca27 {J : Int32 → Int32 → Prop} {v w y : Nat} {z0 z1 : Int32} (hv : v < 5) (hw : w < 5) (hz : z1 + z0 = nI y) (ht : w = v → J (nI (y + 1)) (nI (w + 1))) (hf : w ≠ v → J (nI y) (nI (w + 1))) : wX_choiceAfter_27 post J (nI v) (nI w) z0 z1 L B (tj_A cn) (tj_A ak) (tj_A rl) (tj_A vr) W G A M :=
  nm_r hz (pk_eq w v (fun e => nm_r (nI_1 y) (nm_r (nI_1 w) (ht e))) (fun e => nm_r (nI_1 w) (hf e)))
theorem xx_ca_l {v code : Nat} (hv : v < 5) (hG : tj_Gv G code) : ∀ n w, w ≤ 5 → 5 - w < n → post (nI (tj_ca (tj_g code) v 5)) → wX_choiceAfter_4 post (nI v) L B (tj_A cn) (tj_A ak) (tj_A rl) (tj_A vr) W G A M n (nI (tj_ca (tj_g code) v w)) (nI w) := by
  intro n
  induction n with
  | zero => intro v _ h; omega
  | succ n ih =>
    intro w h1 h2 h
    rcases Nat.lt_or_ge w 5 with z | z
    · have k := ih (w + 1) (by omega) (by omega) h
      have e : tj_ca (tj_g code) v (w + 1) = tj_ca (tj_g code) v w * 5 + (if w ≤ v then tj_g code w else 0) + (if w = v then 1 else 0) := rfl
      refine br_f (nI_ge (b := 5) z (by decide)) (pk_lt v w (fun lt => ?_) (fun ge => ⟨vp_in_nI z (by decide), ?_⟩))
      · refine xx_ca27 (y := tj_ca (tj_g code) v w * 5) hv z (by rw [tj_mr_5, Int32.add_zero]) (fun x => by omega) (fun x => ?_)
        rw [if_neg (show ¬ w ≤ v by omega), if_neg x, Nat.add_zero, Nat.add_zero] at e
        rw [e] at k
        exact k
      · refine xx_ca27 (y := tj_ca (tj_g code) v w * 5 + tj_g code w) hv z (by rw [nI_clamp (by omega), hG w z, tj_mr_5, nI_add]) (fun x => ?_) (fun x => ?_)
        · rw [if_pos (show w ≤ v by omega), if_pos x] at e
          rw [e] at k
          exact k
        · rw [if_pos (show w ≤ v by omega), if_neg x, Nat.add_zero] at e
          rw [e] at k
          exact k
    · have e : w = 5 := by omega
      subst e
      exact br_t (by decide) h
theorem xx_ca {v code : Nat} (hv : v < 5) (hc : code < 3125) (hG : tj_Gv G code) (h : post (nI (tj_x code v))) : wpX_choiceAfter post (L, B, tj_A cn, tj_A ak, tj_A rl, tj_A vr, W, G, A, M) (nI v) := by
  rw [← tj_ca_x (by omega) hc] at h
  exact ⟨6, xx_ca_l hv hG 6 0 (by omega) (by omega) h⟩
end
section
variable {post : SX → Prop} {L : Int32} {B W G A M : Nat → Int32} {cn ak rl vr : Nat → Nat}
theorem xx_cm24 : ∀ n i M, i ≤ 468 → 468 - i < n → (∀ k, k < i → M k = 0) → (∀ M', (∀ k, k < 468 → M' k = 0) → post (L, B, tj_A cn, tj_A ak, tj_A rl, tj_A vr, W, G, A, M')) → wX_clearMarks_24 post L n (nI i) B (tj_A cn) (tj_A ak) (tj_A rl) (tj_A vr) W G A M := by
  intro n
  induction n with
  | zero => intro i _ _ h; omega
  | succ n ih =>
    intro i M h1 h2 hM h
    rcases Nat.lt_or_ge i 468 with z | z
    · refine br_f (nI_ge (b := 468) z (by decide)) ⟨vp_in_nI z (by decide), nm_r (e' := upd M i 0) (by rw [nI_clamp (by omega), tj_vb0]) (nm_r (nI_1 i) (ih (i + 1) _ (by omega) (by omega) (fun k hk => ?_) h))⟩
      by_cases e : k = i
      · subst e; exact pk_us
      · rw [pk_un e]; exact hM k (by omega)
    · have e : i = 468 := by omega
      subst e
      exact br_t (by decide) (h M hM)
theorem xx_cm2 : ∀ n i A, i ≤ 3125 → 3125 - i < n → (∀ k, k < i → A k = 0) → (∀ A' M', (∀ k, k < 3125 → A' k = 0) → (∀ k, k < 468 → M' k = 0) → post (L, B, tj_A cn, tj_A ak, tj_A rl, tj_A vr, W, G, A', M')) → wX_clearMarks_2 post L n (nI i) B (tj_A cn) (tj_A ak) (tj_A rl) (tj_A vr) W G A M := by
  intro n
  induction n with
  | zero => intro i _ _ h; omega
  | succ n ih =>
    intro i A h1 h2 hM h
    rcases Nat.lt_or_ge i 3125 with z | z
    · refine br_f (nI_ge (b := 3125) z (by decide)) ⟨vp_in_nI z (by decide), nm_r (e' := upd A i 0) (by rw [nI_clamp (by omega), tj_vb0]) (nm_r (nI_1 i) (ih (i + 1) _ (by omega) (by omega) (fun k hk => ?_) h))⟩
      by_cases e : k = i
      · subst e; exact pk_us
      · rw [pk_un e]; exact hM k (by omega)
    · have e : i = 3125 := by omega
      subst e
      exact br_t (by decide) ⟨469, xx_cm24 469 0 M (by omega) (by omega) (fun k hk => absurd hk (by omega)) (fun M' hM' => h A M' hM hM')⟩
theorem xx_clear (h : ∀ A' M', (∀ k, k < 3125 → A' k = 0) → (∀ k, k < 468 → M' k = 0) → post (L, B, tj_A cn, tj_A ak, tj_A rl, tj_A vr, W, G, A', M')) : wpX_clearMarks post (L, B, tj_A cn, tj_A ak, tj_A rl, tj_A vr, W, G, A, M) :=
  ⟨3126, xx_cm2 3126 0 A (by omega) (by omega) (fun k hk => absurd hk (by omega)) h⟩
theorem xx_give_l {code : Nat} (hc : code < 2 ^ 31) : ∀ v n G, v < 5 → v + 1 < n → (∀ w, v < w → w < 5 → G w = nI (tj_g code w)) → (∀ G', tj_Gv G' code → post (L, B, tj_A cn, tj_A ak, tj_A rl, tj_A vr, W, G', A, M)) → wX_giveAll_4 post L n (nI (code / 5 ^ (4 - v))) (nI v) B (tj_A cn) (tj_A ak) (tj_A rl) (tj_A vr) W G A M := by
  have hb : ∀ p, code / 5 ^ p < 2 ^ 31 := fun p => Nat.lt_of_le_of_lt (Nat.div_le_self _ _) hc
  have hr : ∀ p, nI (code / 5 ^ p) - nI (code / 5 ^ p) / 5 * 5 = nI (code / 5 ^ p % 5) := fun p => pk_rem (d := 5) (hb p) (by decide) (by decide)
  intro v
  induction v with
  | zero =>
    intro n G _ hn hG h
    obtain ⟨m, rfl⟩ : ∃ m, n = m + 2 := ⟨n - 2, by omega⟩
    refine br_f (by decide) ⟨by decide, vp_in_nI (by decide) (by decide), nm_r (e' := upd G 0 (nI (tj_g code 0))) ?_ ⟨by decide, nm_e (nm_e (br_t (by decide) (h _ ?_)))⟩⟩
    · rw [hr, nI_clamp (by decide)]
      rfl
    · intro w hw
      by_cases e : w = 0
      · subst e; exact pk_us
      · rw [pk_un e]; exact hG w (by omega) hw
  | succ v ih =>
    intro n G h5 hn hG h
    obtain ⟨m, rfl⟩ : ∃ m, n = m + 1 := ⟨n - 1, by omega⟩
    refine br_f (nI_pos (by omega)) ⟨by decide, vp_in_nI h5 (by decide), nm_r (e' := upd G (v + 1) (nI (tj_g code (v + 1)))) ?_ ⟨by decide, nm_r (e' := nI (code / 5 ^ (4 - v))) ?_ (nm_r (pk_m1 v) (ih m _ (by omega) (by omega) (fun w h1 h2 => ?_) h))⟩⟩
    · rw [hr, nI_clamp (by omega)]
      rfl
    · rw [tj_dv_5 (hb _), Nat.div_div_eq_div_mul, ← Nat.pow_succ, show (4 - (v + 1)).succ = 4 - v by omega]
    · by_cases e : w = v + 1
      · subst e; exact pk_us
      · rw [pk_un e]; exact hG w (by omega) h2
theorem xx_give {code : Nat} (hc : code < 2 ^ 31) (h : ∀ G', tj_Gv G' code → post (L, B, tj_A cn, tj_A ak, tj_A rl, tj_A vr, W, G', A, M)) : wpX_giveAll post (L, B, tj_A cn, tj_A ak, tj_A rl, tj_A vr, W, G, A, M) (nI code) := by
  have := xx_give_l (post := post) (L := L) (B := B) (W := W) (A := A) (M := M) (cn := cn) (ak := ak) (rl := rl) (vr := vr) hc 4 6 G (by omega) (by omega) (fun w a b => by omega) h
  rw [Nat.sub_self, Nat.pow_zero, Nat.div_one] at this
  exact ⟨6, this⟩
theorem xx_mm_l {q code : Nat} {P : Nat → Prop} (hq : q < 2) (hc : cn q ≤ 4) (ha : tj_At rl vr W) (hG : tj_Gv G code) : ∀ n i M, i ≤ cn q → cn q - i < n → tj_B M (fun k => P k ∨ ∃ j, j < i ∧ tj_LX (rl (4 * q + j)) (tj_row (rl (4 * q + j)) (vr (4 * q + j)) (tj_g code)) = k) 468 →
    (∀ M', tj_B M' (fun k => P k ∨ ∃ j, j < cn q ∧ tj_LX (rl (4 * q + j)) (tj_row (rl (4 * q + j)) (vr (4 * q + j)) (tj_g code)) = k) 468 → post (L, B, tj_A cn, tj_A ak, tj_A rl, tj_A vr, W, G, A, M')) → wX_markMatches_9 post (nI q) (nI (cn q)) L n (nI i) B (tj_A cn) (tj_A ak) (tj_A rl) (tj_A vr) W G A M := by
  intro n
  induction n with
  | zero => intro i _ _ h; omega
  | succ n ih =>
    intro i M h1 h2 hM h
    rcases Nat.lt_or_ge i (cn q) with z | z
    · obtain ⟨a1, a2, a3⟩ := ha (4 * q + i) (by omega)
      have rlt := tj_row_lt (r := rl (4 * q + i)) (vs := vr (4 * q + i)) (fun v _ => tj_g_lt code v)
      have llt : tj_LX (rl (4 * q + i)) (tj_row (rl (4 * q + i)) (vr (4 * q + i)) (tj_g code)) < 468 := by
        unfold tj_LX
        rcases tj_on (rl (4 * q + i)) with ⟨_, _, _, _⟩ | ⟨_, _, _, _⟩ <;> omega
      refine br_f (nI_ge z (by omega)) (nm_r (tj_e4 q i) (xx_row (by omega) ha hG ⟨vp_in_nI (by omega) (by decide), ?_⟩))
      show wpX_leaf _ (tj_A rl (nI (4 * q + i)).toNatClampNeg) _
      rw [nI_clamp (by omega), tj_Ap]
      refine xx_leaf a1 ⟨vp_in_nI llt (by decide), nm_r (e' := upd M (tj_LX (rl (4 * q + i)) (tj_row (rl (4 * q + i)) (vr (4 * q + i)) (tj_g code))) 1) (by rw [nI_clamp (by omega), tj_vb1]) (nm_r (nI_1 i) (ih (i + 1) _ (by omega) (by omega) (tj_B_c (tj_B_u hM) (fun k _ => ?_)) h))⟩
      constructor
      · rintro ((p | ⟨j, hj, e⟩) | e)
        · exact Or.inl p
        · exact Or.inr ⟨j, by omega, e⟩
        · exact Or.inr ⟨i, by omega, e⟩
      · rintro (p | ⟨j, hj, e⟩)
        · exact Or.inl (Or.inl p)
        · by_cases y : j = i
          · subst y; exact Or.inr e
          · exact Or.inl (Or.inr ⟨j, by omega, e⟩)
    · have e : i = cn q := by omega
      rw [e]
      rw [e] at hM
      exact br_t (nI_le (Nat.le_refl _) (by omega)) (h M hM)
theorem xx_mm {q code : Nat} {P : Nat → Prop} (hq : q < 2) (hc : cn q ≤ 4) (ha : tj_At rl vr W) (hG : tj_Gv G code) (hM : tj_B M P 468)
    (h : ∀ M', tj_B M' (fun k => P k ∨ ∃ j, j < cn q ∧ tj_LX (rl (4 * q + j)) (tj_row (rl (4 * q + j)) (vr (4 * q + j)) (tj_g code)) = k) 468 → post (L, B, tj_A cn, tj_A ak, tj_A rl, tj_A vr, W, G, A, M')) : wpX_markMatches post (L, B, tj_A cn, tj_A ak, tj_A rl, tj_A vr, W, G, A, M) (nI q) := by
  refine ⟨vp_in_nI hq (by decide), nm_r (e' := nI (cn q)) (by rw [nI_clamp (by omega), tj_Ap]) ⟨cn q + 1, xx_mm_l (P := P) hq hc ha hG _ 0 M (by omega) (by omega) (tj_B_c hM (fun k _ => ?_)) h⟩⟩
  exact ⟨Or.inl, fun z => z.elim id (fun ⟨j, hj, _⟩ => absurd hj (by omega))⟩
end
end
section
/-! X: faults; all choices tried -/
def tj_st : Nat → Nat
  | 0 => 0
  | c + 1 => 5 * tj_st c + 1
theorem tj_nz {k : Nat} (hk : k < 2 ^ 31) (h : nI k = 0) : k = 0 := (tj_eq_0 hk).mp h
/-- an empty node on an atom's path: no row for those that keep the path -/
theorem tj_pre {B : Nat → Int32} {th : Nat → Bool} {r vs c : Nat} {g g' : Nat → Nat} (hB : tj_Bl B th) (hr : r < 3) (h0 : 0 < c) (hc : c ≤ tj_w r) (hg : ∀ v, v < 5 → g v < 5) (hg' : ∀ v, v < 5 → g' v < 5)
    (hz : B (156 * r + (tj_st c + tj_rp r vs g c)) = 0) (ha : ∀ i, i < c → g' (tj_c r vs i) = g (tj_c r vs i)) : th (125 * r + tj_row r vs g') = false := by
  have b0 := hg _ (tj_c_lt r vs 0)
  have b1 := hg _ (tj_c_lt r vs 1)
  have b2 := hg _ (tj_c_lt r vs 2)
  have kl : ∀ lo n, n ≤ 125 → tj_k th lo n < 2 ^ 31 := fun lo n h => Nat.lt_of_le_of_lt (tj_k_le th lo n) (by omega)
  rcases tj_on r with ⟨e, w, _, _⟩ | ⟨e, w, _, _⟩
  · subst e
    rw [w] at hc
    have : c = 1 ∨ c = 2 ∨ c = 3 := by omega
    rcases this with rfl | rfl | rfl
    · have e1 : 156 * 2 + (tj_st 1 + tj_rp 2 vs g 1) = 313 + g (tj_c 2 vs 0) := by
        show 156 * 2 + (5 * 0 + 1 + (5 * 0 + g (tj_c 2 vs 0))) = _
        omega
      rw [e1, hB.1.2.2.1 _ b0] at hz
      exact tj_f30 hg' (tj_nz (kl _ _ (by decide)) hz) (ha 0 (by decide))
    · have e1 : 156 * 2 + (tj_st 2 + tj_rp 2 vs g 2) = 318 + (5 * g (tj_c 2 vs 0) + g (tj_c 2 vs 1)) := by
        show 156 * 2 + (5 * (5 * 0 + 1) + 1 + (5 * (5 * 0 + g (tj_c 2 vs 0)) + g (tj_c 2 vs 1))) = _
        omega
      rw [e1, hB.1.2.1 _ (by omega)] at hz
      exact tj_f31 hg' (tj_nz (kl _ _ (by decide)) hz) (ha 0 (by decide)) (ha 1 (by decide))
    · have e1 : 156 * 2 + (tj_st 3 + tj_rp 2 vs g 3) = 343 + tj_row 2 vs g := by
        show 156 * 2 + (5 * (5 * (5 * 0 + 1) + 1) + 1 + tj_row 2 vs g) = _
        omega
      rw [e1, hB.1.1 _ (tj_row_lt hg)] at hz
      have k := tj_k_zero (tj_nz (kl _ _ (by decide)) hz) (250 + tj_row 2 vs g) (by omega) (by omega)
      rw [tj_row_eq (r := 2) (vs := vs) (g := g') (g' := g) ha]
      exact k
  · rw [w] at hc
    have : c = 1 ∨ c = 2 := by omega
    have hn : tj_row r vs g < 25 := by rw [tj_rown e]; omega
    rcases this with rfl | rfl
    · have e1 : 156 * r + (tj_st 1 + tj_rp r vs g 1) = 156 * r + 1 + g (tj_c r vs 0) := by
        show 156 * r + (5 * 0 + 1 + (5 * 0 + g (tj_c r vs 0))) = _
        omega
      rw [e1, (hB.2.1 r (by omega)).2.1 _ b0] at hz
      exact tj_f20 e hg' (tj_nz (kl _ _ (by decide)) hz) (ha 0 (by decide))
    · have e1 : 156 * r + (tj_st 2 + tj_rp r vs g 2) = 156 * r + 6 + tj_row r vs g := by
        rw [tj_rown e]
        show 156 * r + (5 * (5 * 0 + 1) + 1 + (5 * (5 * 0 + g (tj_c r vs 0)) + g (tj_c r vs 1))) = _
        omega
      rw [e1, (hB.2.1 r (by omega)).1 _ hn] at hz
      have k := tj_k_zero (tj_nz (kl _ _ (by decide)) hz) (125 * r + tj_row r vs g) (by omega) (by omega)
      rw [tj_row_eq (g := g') (g' := g) (by rw [w]; exact ha)]
      exact k
/-- nodes lie within -/
theorem tj_node_lt {r vs c : Nat} {g : Nat → Nat} (hr : r < 3) (hc : c ≤ 3) (hg : ∀ v, v < 5 → g v < 5) : 156 * r + (tj_st c + tj_rp r vs g c) < 468 := by
  have := tj_rp_lt (r := r) (vs := vs) hg c
  have h : c = 0 ∨ c = 1 ∨ c = 2 ∨ c = 3 := by omega
  rcases h with rfl | rfl | rfl | rfl
  · have e : tj_st 0 = 0 := rfl
    omega
  · have e : tj_st 1 = 1 := rfl
    omega
  · have e : tj_st 2 = 6 := rfl
    omega
  · have e : tj_st 3 = 31 := rfl
    omega
section
variable {post : Int32 → Prop} {lv : Nat} {th : Nat → Bool} {B W G A M : Nat → Int32} {cn ak rl vr : Nat → Nat}
theorem xx_f86 {J : Int32 → Int32 → Int32 → Prop} {x1 x6 : Int32} {r vs code c m : Nat} (hl : lv < 3) (hr : r < 3) (hc : c < tj_w r) (hG : tj_Gv G code)
    (h0 : B (156 * r + (tj_st (c + 1) + tj_rp r vs (tj_g code) (c + 1))) = 0 → post (nI m)) (hJ : J (nI m) (nI (tj_st (c + 1) + tj_rp r vs (tj_g code) (c + 1))) (nI (c + 1))) :
    wX_faultOf_86 post J x1 (nI r) (nI (tj_st c + tj_rp r vs (tj_g code) c)) x6 (nI c) (nI (tj_c r vs c)) (nI m) (nI lv) B (tj_A cn) (tj_A ak) (tj_A rl) (tj_A vr) W G A M := by
  have hw : tj_w r ≤ 3 := by rcases tj_w_2 r with h | h <;> omega
  have c5 := tj_c_lt r vs c
  have nl := tj_node_lt (r := r) (vs := vs) (c := c + 1) (g := tj_g code) hr (by omega) (fun v _ => tj_g_lt code v)
  refine ⟨vp_in_nI c5 (by decide), nm_r (e' := nI (tj_st (c + 1) + tj_rp r vs (tj_g code) (c + 1))) ?_ (pk_eq lv 2 (fun e => ⟨pk_in _ 468 nl (tj_e156 _ _), ?_⟩) (fun e => nm_r (nI_1 c) hJ))⟩
  · rw [nI_clamp (by omega), hG _ c5, tj_ml_5, tj_ar_1, nI_add]
    refine congrArg nI ?_
    show 5 * (tj_st c + tj_rp r vs (tj_g code) c) + 1 + tj_g code (tj_c r vs c) = (5 * tj_st c + 1) + (5 * tj_rp r vs (tj_g code) c + tj_g code (tj_c r vs c))
    omega
  · rw [tj_e156, nI_clamp (by omega)]
    exact br_c h0 (fun _ => nm_r (nI_1 c) hJ)
theorem xx_f52 {p r vs code : Nat} (hl : lv < 3) (hp : p < 8) (hr : r < 3) (hB : tj_Bl B th) (hW : ∀ c, c < tj_w r → W (3 * p + c) = nI (tj_c r vs c)) (hG : tj_Gv G code) (ht : th (125 * r + tj_row r vs (tj_g code)) = false)
    (h : ∀ f, tj_FA th r vs code f → post (nI f)) : ∀ n c m, c ≤ tj_w r → tj_w r - c < n → (∀ i, i < c → tj_c r vs i ≤ m) → m ≤ 4 →
    wX_faultOf_52 post (nI p) (nI r) (nI (tj_w r)) (nI lv) B (tj_A cn) (tj_A ak) (tj_A rl) (tj_A vr) W G A M n (nI m) (nI (tj_st c + tj_rp r vs (tj_g code) c)) (nI c) := by
  have hw : tj_w r ≤ 3 := by rcases tj_w_2 r with h | h <;> omega
  intro n
  induction n with
  | zero => intro c m _ h; omega
  | succ n ih =>
    intro c m h1 h2 hm h4
    rcases Nat.lt_or_ge c (tj_w r) with z | z
    · have c5 := tj_c_lt r vs c
      have H : ∀ m', tj_c r vs c ≤ m' → m ≤ m' → m' ≤ 4 → wX_faultOf_86 post (wX_faultOf_52 post (nI p) (nI r) (nI (tj_w r)) (nI lv) B (tj_A cn) (tj_A ak) (tj_A rl) (tj_A vr) W G A M n) (nI p) (nI r) (nI (tj_st c + tj_rp r vs (tj_g code) c)) (nI (tj_w r)) (nI c) (nI (tj_c r vs c)) (nI m') (nI lv) B (tj_A cn) (tj_A ak) (tj_A rl) (tj_A vr) W G A M := by
        intro m' q1 q2 q3
        have hm' : ∀ i, i < c + 1 → tj_c r vs i ≤ m' := by
          intro i hi
          by_cases e : i = c
          · subst e; exact q1
          · exact Nat.le_trans (hm i (by omega)) q2
        refine xx_f86 hl hr z hG (fun zz => h m' (Or.inr ⟨q3, fun d hd => ?_⟩)) (ih (c + 1) m' (by omega) (by omega) hm' q3)
        exact tj_pre hB hr (by omega) z (fun v _ => tj_g_lt code v) (fun v _ => tj_g_lt d v) zz (fun i hi => hd _ (hm' i hi))
      refine br_f (nI_ge z (by omega)) ⟨pk_in (3 * p + c) 24 (by omega) (tj_e3 p c), nm_r (e' := nI (tj_c r vs c)) (by rw [tj_e3, nI_clamp (by omega), hW c z]) (pk_le (tj_c r vs c) m (fun le => H m le (Nat.le_refl m) h4) (fun gt => H _ (Nat.le_refl _) (by omega) (by omega)))⟩
    · have e : c = tj_w r := by omega
      subst e
      exact br_t (nI_le (Nat.le_refl _) (by omega)) (h m (Or.inr ⟨h4, fun d hd => tj_fw hm ht hd⟩))
theorem xx_fault {p code : Nat} (hp : p < 8) (hl : lv < 3) (hB : tj_Bl B th) (ha : tj_At rl vr W) (hG : tj_Gv G code) (h : ∀ f, tj_FA th (rl p) (vr p) code f → post (nI f)) : wpX_faultOf post (nI lv, B, tj_A cn, tj_A ak, tj_A rl, tj_A vr, W, G, A, M) (nI p) := by
  obtain ⟨a1, a2, a3⟩ := ha p hp
  have rlt := tj_row_lt (r := rl p) (vs := vr p) (fun v _ => tj_g_lt code v)
  have llt : tj_LX (rl p) (tj_row (rl p) (vr p) (tj_g code)) < 468 := by
    unfold tj_LX
    rcases tj_on (rl p) with ⟨_, _, _, _⟩ | ⟨_, _, _, _⟩ <;> omega
  have c4 : ∀ c, c < tj_w (rl p) → tj_c (rl p) (vr p) c ≤ 4 := fun c _ => by have := tj_c_lt (rl p) (vr p) c; omega
  refine ⟨vp_in_nI hp (by decide), nm_r (e' := nI (rl p)) (by rw [nI_clamp (by omega), tj_Ap]) (xx_row hp ha hG (xx_leaf a1 ⟨vp_in_nI llt (by decide), ?_⟩))⟩
  rw [nI_clamp (by omega)]
  have eB : B (tj_LX (rl p) (tj_row (rl p) (vr p) (tj_g code))) = _ := tj_Bl_leaf hB a1 rlt
  rw [eB]
  cases ht : th (125 * rl p + tj_row (rl p) (vr p) (tj_g code)) with
  | true => exact br_f (by decide) (h 5 (Or.inl ⟨rfl, ht⟩))
  | false =>
    refine br_t (by decide) (pk_eq lv 0 (fun e => h 4 (Or.inr ⟨by decide, fun d hd => tj_fw c4 ht hd⟩)) (fun e => xx_cols a1 ⟨tj_w (rl p) + 1, ?_⟩))
    exact xx_f52 hl hp a1 hB a3 hG ht h _ 0 0 (by omega) (by omega) (fun i hi => by omega) (by omega)
theorem xx_ff_l {q code : Nat} (hq : q < 2) (hc : cn q ≤ 4) (hl : lv < 3) (hB : tj_Bl B th) (ha : tj_At rl vr W) (hG : tj_Gv G code) (h : ∀ f, tj_FS th rl vr (4 * q) (cn q) code f → post (nI f)) : ∀ n i f, i ≤ cn q → cn q - i < n → tj_FS th rl vr (4 * q) i code f →
    wX_firstFault_12 post (nI q) (nI (cn q)) (nI lv) B (tj_A cn) (tj_A ak) (tj_A rl) (tj_A vr) W G A M n (nI f) (nI i) := by
  intro n
  induction n with
  | zero => intro i f _ h; omega
  | succ n ih =>
    intro i f h1 h2 hf
    have f5 := tj_FS_le hf
    rcases Nat.lt_or_ge i (cn q) with z | z
    · refine br_f (nI_ge z (by omega)) ?_
      rw [tj_e4]
      refine xx_fault (by omega) hl hB ha hG (fun e he => ?_)
      have e5 := tj_FA_le he
      exact pk_le f e (fun le => nm_r (nI_1 i) (ih (i + 1) f (by omega) (by omega) (tj_FS_hi hf he le))) (fun gt => nm_r (nI_1 i) (ih (i + 1) e (by omega) (by omega) (tj_FS_lo he gt f5)))
    · have e : i = cn q := by omega
      subst e
      exact br_t (nI_le (Nat.le_refl _) (by omega)) (h f hf)
theorem xx_ff {q code : Nat} (hq : q < 2) (hc : cn q ≤ 4) (hl : lv < 3) (hB : tj_Bl B th) (ha : tj_At rl vr W) (hG : tj_Gv G code) (h : ∀ f, tj_FS th rl vr (4 * q) (cn q) code f → post (nI f)) : wpX_firstFault post (nI lv, B, tj_A cn, tj_A ak, tj_A rl, tj_A vr, W, G, A, M) (nI q) :=
  ⟨vp_in_nI hq (by decide), nm_r (e' := nI (cn q)) (by rw [nI_clamp (by omega), tj_Ap]) ⟨cn q + 1, xx_ff_l hq hc hl hB ha hG h _ 0 5 (by omega) (by omega) (tj_FS_0 th rl vr (4 * q) code)⟩⟩
end
section
variable {post : SX → Prop} {lv : Nat} {th : Nat → Bool} {B W G A M : Nat → Int32} {cn ak rl vr : Nat → Nat}
theorem xx_try_l {q : Nat} (hq : q < 2) (hc : cn q ≤ 4) (hk : ak q < 32) (hl : lv < 3) (hB : tj_Bl B th) (ha : tj_At rl vr W)
    (h : ∀ G A M, tj_B A (tj_PA th rl vr (4 * q) (cn q) (ak q) 3125) 3125 → tj_B M (tj_PM tj_LX th rl vr (4 * q) (cn q) 3125) 468 → post (nI lv, B, tj_A cn, tj_A ak, tj_A rl, tj_A vr, W, G, A, M)) :
    ∀ n t c G A M, t ≤ c → c ≤ 3125 → 3125 - t < n → tj_B A (tj_PA th rl vr (4 * q) (cn q) (ak q) c) 3125 → tj_B M (tj_PM tj_LX th rl vr (4 * q) (cn q) c) 468 →
    wX_tryChoices_8 post (nI q) n (nI c) (nI t) (nI lv) B (tj_A cn) (tj_A ak) (tj_A rl) (tj_A vr) W G A M := by
  intro n
  induction n with
  | zero => intro t c G A M _ _ h; omega
  | succ n ih =>
    intro t c G A M htc hc5 hn hA hM
    by_cases e : c = 3125
    · subst e
      exact br_c (fun _ => h G A M hA hM) (fun _ => br_t (by decide) (h G A M hA hM))
    · have cl : c < 3125 := by omega
      refine br_f (nI_ge (b := 3125) (by omega) (by decide)) (br_f (nI_ge (b := 3125) cl (by decide)) (xx_give (by omega) (fun G' hG' => xx_ff hq hc hl hB ha hG' (fun f hf => ?_))))
      have f5 := tj_FS_le hf
      refine pk_eq f 5 (fun e5 => ?_) (fun e5 => ?_)
      · subst e5
        have hch : tj_ch th rl vr (4 * q) (cn q) (tj_g c) := by
          rcases hf with ⟨_, z⟩ | ⟨z, _⟩
          · exact z
          · omega
        have ao := tj_ao_lt (a := ak q) (g := tj_g c) (fun v _ => tj_g_lt c v) 5 (Nat.le_refl 5)
        refine xx_gta hq hk hG' ⟨vp_in_nI ao (by decide), nm_r (e' := upd A (tj_ao (ak q) (tj_g c) 5) 1) (by rw [nI_clamp (Nat.lt_trans ao (by decide)), tj_vb1]) (xx_mm hq hc ha hG' hM (fun M' hM' => ?_))⟩
        refine xx_ca (v := 4) (by decide) cl hG' (nm_r (nI_1 t) ?_)
        rw [tj_x_4]
        exact ih (t + 1) (c + 1) _ _ _ (by omega) (by omega) (by omega) (tj_B_c (tj_B_u hA) (fun k _ => tj_PA_one hch)) (tj_B_c hM' (fun k _ => tj_PM_one hch))
      · have gt := tj_x_gt c f
        have sk := tj_skip hf (by omega)
        refine xx_ca (by omega) cl hG' (nm_r (nI_1 t) ?_)
        exact ih (t + 1) (tj_x c f) _ _ _ (by omega) (tj_x_le (by omega) cl) (by omega) (tj_B_c hA (fun k _ => tj_PA_skip (by omega) sk)) (tj_B_c hM (fun k _ => tj_PM_skip (by omega) sk))
theorem xx_try {q : Nat} (hq : q < 2) (hc : cn q ≤ 4) (hk : ak q < 32) (hl : lv < 3) (hB : tj_Bl B th) (ha : tj_At rl vr W)
    (h : ∀ G A M, tj_B A (tj_PA th rl vr (4 * q) (cn q) (ak q) 3125) 3125 → tj_B M (tj_PM tj_LX th rl vr (4 * q) (cn q) 3125) 468 → post (nI lv, B, tj_A cn, tj_A ak, tj_A rl, tj_A vr, W, G, A, M)) : wpX_tryChoices post (nI lv, B, tj_A cn, tj_A ak, tj_A rl, tj_A vr, W, G, A, M) (nI q) := by
  unfold wpX_tryChoices
  refine xx_clear (fun A' M' hA' hM' => ⟨3126, ?_⟩)
  exact xx_try_l hq hc hk hl hB ha h 3126 0 0 _ _ _ (by omega) (by omega) (by omega) (tj_B_0 hA' (fun k => tj_PA_0)) (tj_B_0 hM' (fun k => tj_PM_0))
end
end
section
/-! X: paths, atoms, renamings -/
section
variable {post : SX → Prop} {dl : Int32} {L : Int32} {B W G A M : Nat → Int32} {cn ak rl vr : Nat → Nat}
theorem xx_cp {n r node d idx nd : Nat} (hd : d < 1000) (h1 : 0 < node) (e : 156 * r + node = idx) (hi : idx < 468) (e2 : (node - 1) / 5 = nd)
    (hk : wX_changePath_13 post (nI r) dl L n (nI nd) (nI d) (upd B idx (B idx + dl)) (tj_A cn) (tj_A ak) (tj_A rl) (tj_A vr) W G A M) : wX_changePath_13 post (nI r) dl L (n + 1) (nI node) (nI (d + 1)) B (tj_A cn) (tj_A ak) (tj_A rl) (tj_A vr) W G A M := by
  have e3 : nI r * 156 + nI node = nI idx := by rw [tj_e156, e]
  have e4 : (nI node - 1) / 5 = nI nd := by rw [tj_s1 h1, tj_dv_5 (by omega), e2]
  refine br_f (nI_pos (by omega)) ⟨pk_in idx 468 hi e3, pk_in idx 468 hi e3, nm_r (e' := upd B idx (B idx + dl)) (by rw [e3, nI_clamp (by omega)]) ⟨by decide, nm_r e4 (nm_r (pk_m1 d) hk)⟩⟩
theorem xx_cp0 {n r idx : Nat} (e : 156 * r + 0 = idx) (hi : idx < 468) (hk : post (L, upd B idx (B idx + dl), tj_A cn, tj_A ak, tj_A rl, tj_A vr, W, G, A, M)) : wX_changePath_13 post (nI r) dl L (n + 2) (nI 0) (nI 0) B (tj_A cn) (tj_A ak) (tj_A rl) (tj_A vr) W G A M := by
  have e3 : nI r * 156 + nI 0 = nI idx := by rw [tj_e156, e]
  refine br_f (by decide) ⟨pk_in idx 468 hi e3, pk_in idx 468 hi e3, nm_r (e' := upd B idx (B idx + dl)) (by rw [e3, nI_clamp (by omega)]) ⟨by decide, nm_e (nm_e (br_t (by decide) hk))⟩⟩
theorem xx_path {th th' : Nat → Bool} {r row : Nat} (hB : tj_Bl B th) (hr : r < 3) (hw : row < tj_n r)
    (hi : ∀ lo n, lo ≤ 125 * r + row → 125 * r + row < lo + n → nI (tj_k th lo n) + dl = nI (tj_k th' lo n))
    (ho : ∀ lo n, ¬ (lo ≤ 125 * r + row ∧ 125 * r + row < lo + n) → tj_k th' lo n = tj_k th lo n) (hz : ∀ j, j ≠ 125 * r + row → th' j = th j)
    (h : ∀ B', tj_Bl B' th' → post (L, B', tj_A cn, tj_A ak, tj_A rl, tj_A vr, W, G, A, M)) : wpX_changePath post (L, B, tj_A cn, tj_A ak, tj_A rl, tj_A vr, W, G, A, M) (nI r) (nI row) dl := by
  unfold wpX_changePath
  refine xx_lit hr (xx_cols hr ⟨5, ?_⟩)
  rcases tj_on r with ⟨e, w, n, o⟩ | ⟨e, w, n, o⟩
  · subst e
    rw [o, w]
    rw [n] at hw
    exact xx_cp (idx := 343 + row) (nd := 6 + row / 5) (by omega) (by omega) (by omega) (by omega) (by omega)
      (xx_cp (idx := 318 + row / 5) (nd := 1 + row / 25) (by omega) (by omega) (by omega) (by omega) (by omega)
      (xx_cp (idx := 313 + row / 25) (nd := 0) (by omega) (by omega) (by omega) (by omega) (by omega)
      (xx_cp0 (idx := 312) (by omega) (by omega) (h _ (tj_path_w hB hw hi ho hz _ _ _ _ rfl rfl rfl rfl)))))
  · rw [o, w]
    rw [n] at hw
    exact xx_cp (idx := 156 * r + 6 + row) (nd := 1 + row / 5) (by omega) (by omega) (by omega) (by omega) (by omega)
      (xx_cp (idx := 156 * r + 1 + row / 5) (nd := 0) (by omega) (by omega) (by omega) (by omega) (by omega)
      (xx_cp0 (idx := 156 * r) (by omega) (by omega) (h _ (tj_path_n hB (by omega) hw hi ho hz _ _ _ rfl rfl rfl))))
theorem xx_put_l {p r vs : Nat} {W0 : Nat → Int32} (hp : p < 8) (hr : r < 3) (hv : vs < 125) (h : ∀ W', (∀ j, (j < 3 * p ∨ 3 * p + 3 ≤ j) → W' j = W0 j) → (∀ c, c < tj_w r → W' (3 * p + c) = nI (tj_c r vs c)) → post (L, B, tj_A cn, tj_A ak, tj_A rl, tj_A vr, W', G, A, M)) :
    ∀ n c W, c ≤ tj_w r → tj_w r - c < n → (∀ j, (j < 3 * p ∨ 3 * p + 3 ≤ j) → W j = W0 j) → (∀ i, i < c → W (3 * p + i) = nI (tj_c r vs i)) → wX_putAtom_23 post (nI p) (nI vs) (nI (tj_w r)) L n (nI c) B (tj_A cn) (tj_A ak) (tj_A rl) (tj_A vr) W G A M := by
  have hw : tj_w r ≤ 3 := by rcases tj_w_2 r with h | h <;> omega
  intro n
  induction n with
  | zero => intro c W _ h; omega
  | succ n ih =>
    intro c W h1 h2 ho hi
    rcases Nat.lt_or_ge c (tj_w r) with z | z
    · refine br_f (nI_ge z (by omega)) ?_
      rw [tj_s1 (by omega), pk_sub (show c ≤ tj_w r - 1 by omega)]
      refine xx_dig (by omega) (by omega) ⟨pk_in (3 * p + c) 24 (by omega) (tj_e3 p c), nm_r (e' := upd W (3 * p + c) (nI (tj_c r vs c))) ?_ (nm_r (nI_1 c) (ih (c + 1) _ (by omega) (by omega) (fun j hj => ?_) (fun i hc => ?_)))⟩
      · rw [tj_e3, nI_clamp (by omega)]
        rfl
      · rw [pk_un (by omega)]
        exact ho j hj
      · by_cases e : i = c
        · subst e; exact pk_us
        · rw [pk_un (by omega)]
          exact hi i (by omega)
    · have e : c = tj_w r := by omega
      subst e
      exact br_t (nI_le (Nat.le_refl _) (by omega)) (h W ho hi)
theorem xx_put {p r vs : Nat} (hp : p < 8) (hr : r < 3) (hv : vs < tj_n r) (ha : tj_At rl vr W) (h : ∀ W', tj_At (tj_u rl p r) (tj_u vr p vs) W' → post (L, B, tj_A cn, tj_A ak, tj_A (tj_u rl p r), tj_A (tj_u vr p vs), W', G, A, M)) : wpX_putAtom post (L, B, tj_A cn, tj_A ak, tj_A rl, tj_A vr, W, G, A, M) (nI p) (nI r) (nI vs) := by
  have n5 : tj_n r ≤ 125 := by rcases tj_on r with ⟨_, _, _, _⟩ | ⟨_, _, _, _⟩ <;> omega
  refine ⟨vp_in_nI hp (by decide), nm_r (e' := tj_A (tj_u rl p r)) (by rw [nI_clamp (by omega), tj_A_u]) ⟨vp_in_nI hp (by decide), nm_r (e' := tj_A (tj_u vr p vs)) (by rw [nI_clamp (by omega), tj_A_u]) (xx_cols hr ⟨tj_w r + 1, ?_⟩)⟩⟩
  refine xx_put_l (W0 := W) hp hr (by omega) (fun W' ho hi => h W' ?_) _ 0 W (by omega) (by omega) (fun j _ => rfl) (fun i hi => by omega)
  intro x hx
  by_cases e : x = p
  · subst e
    rw [tj_u_s, tj_u_s]
    exact ⟨hr, hv, hi⟩
  · rw [tj_u_n e, tj_u_n e]
    obtain ⟨a1, a2, a3⟩ := ha x hx
    refine ⟨a1, a2, fun c hc => ?_⟩
    have hw : tj_w (rl x) ≤ 3 := by rcases tj_w_2 (rl x) with h | h <;> omega
    rw [ho _ (by omega)]
    exact a3 c hc
end
/-- what cut does to a row of cells -/
def tj_cut (f : Nat → Nat) (lo : Nat) : Nat → (Nat → Nat)
  | 0 => f
  | n + 1 => tj_u (tj_cut f lo n) (lo + n) (tj_cut f lo n (lo + n + 1))
section
variable {post : Int32 → SX → Prop} {L : Int32} {B W G A M : Nat → Int32} {cn ak rl vr : Nat → Nat}
theorem xx_cut_l {q i left : Nat} (hq : q < 2) (hl : left ≤ 3) (hi : i ≤ left) (h : ∀ W', tj_At (tj_cut rl (4 * q + i) (left - i)) (tj_cut vr (4 * q + i) (left - i)) W' → post (nI left) (L, B, tj_A (tj_u cn q left), tj_A ak, tj_A (tj_cut rl (4 * q + i) (left - i)), tj_A (tj_cut vr (4 * q + i) (left - i)), W', G, A, M)) :
    ∀ n j W, j ≤ left - i → left - i - j < n → tj_At (tj_cut rl (4 * q + i) j) (tj_cut vr (4 * q + i) j) W → wX_cut_35 post (nI q) (nI left) n (nI (i + j)) L B (tj_A cn) (tj_A ak) (tj_A (tj_cut rl (4 * q + i) j)) (tj_A (tj_cut vr (4 * q + i) j)) W G A M := by
  intro n
  induction n with
  | zero => intro j W _ h; omega
  | succ n ih =>
    intro j W h1 h2 ha
    rcases Nat.lt_or_ge j (left - i) with z | z
    · obtain ⟨a1, a2, a3⟩ := ha (4 * q + i + j + 1) (by omega)
      have e : nI (4 * q + (i + j)) + 1 = nI (4 * q + i + j + 1) := by rw [nI_1]; exact congrArg nI (by omega)
      refine br_f (nI_ge (by omega) (by omega)) (nm_r (tj_e4 q (i + j)) ⟨pk_in (4 * q + i + j + 1) 8 (by omega) e, pk_in (4 * q + i + j + 1) 8 (by omega) e, ?_⟩)
      rw [e, nI_clamp (by omega), tj_Ap, tj_Ap, show 4 * q + (i + j) = 4 * q + i + j by omega]
      refine xx_put (by omega) a1 a2 ha (fun W' ha' => nm_r (nI_1 (i + j)) ?_)
      exact ih (j + 1) W' (by omega) (by omega) ha'
    · have e : j = left - i := by omega
      subst e
      have e2 : i + (left - i) = left := by omega
      rw [e2]
      exact br_t (nI_le (Nat.le_refl _) (by omega)) ⟨vp_in_nI hq (by decide), nm_r (e' := tj_A (tj_u cn q left)) (by rw [nI_clamp (by omega), tj_A_u]) (h W ha)⟩
end
section
variable {post : Int32 → Prop} {L : Int32} {B W G A M : Nat → Int32} {cn ak rl vr : Nat → Nat}
theorem xx_find_l {q r x : Nat} (hq : q < 2) (hc : cn q ≤ 4) (hr : r < 3) (hx : x < 125) (ha : tj_At rl vr W) (h1 : ∀ j, tj_Fst rl vr (4 * q) (cn q) r x j → post (nI j)) (h0 : (∀ j, j < cn q → ¬ (rl (4 * q + j) = r ∧ vr (4 * q + j) = x)) → post (-1)) :
    ∀ n i, i ≤ cn q → cn q - i < n → (∀ j, j < i → ¬ (rl (4 * q + j) = r ∧ vr (4 * q + j) = x)) → wX_findAtom_11 post (nI q) (nI r) (nI x) (nI (cn q)) L B (tj_A cn) (tj_A ak) (tj_A rl) (tj_A vr) W G A M n (nI i) := by
  intro n
  induction n with
  | zero => intro i _ h; omega
  | succ n ih =>
    intro i k1 k2 hn
    rcases Nat.lt_or_ge i (cn q) with z | z
    · obtain ⟨a1, a2, a3⟩ := ha (4 * q + i) (by omega)
      have v5 : vr (4 * q + i) < 125 := by rcases tj_on (rl (4 * q + i)) with ⟨_, _, _, _⟩ | ⟨_, _, _, _⟩ <;> omega
      have nx : ¬ (rl (4 * q + i) = r ∧ vr (4 * q + i) = x) → wX_findAtom_11 post (nI q) (nI r) (nI x) (nI (cn q)) L B (tj_A cn) (tj_A ak) (tj_A rl) (tj_A vr) W G A M n (nI (i + 1)) := by
        intro hne
        refine ih (i + 1) (by omega) (by omega) (fun j hj => ?_)
        by_cases e : j = i
        · subst e; exact hne
        · exact hn j (by omega)
      refine br_f (nI_ge z (by omega)) (nm_r (tj_e4 q i) ⟨vp_in_nI (by omega) (by decide), ?_⟩)
      rw [nI_clamp (n := 4 * q + i) (by omega)]
      exact pk_eq (rl (4 * q + i)) r (fun e1 => ⟨vp_in_nI (by omega) (by decide), pk_eq (vr (4 * q + i)) x (fun e2 => h1 i ⟨z, ⟨e1, e2⟩, hn⟩) (fun e2 => nm_r (nI_1 i) (nx (fun y => e2 y.2)))⟩) (fun e1 => nm_r (nI_1 i) (nx (fun y => e1 y.1)))
    · have e : i = cn q := by omega
      rw [e]
      rw [e] at hn
      exact br_t (nI_le (Nat.le_refl _) (by omega)) (h0 hn)
theorem xx_find {q r x : Nat} (hq : q < 2) (hc : cn q ≤ 4) (hr : r < 3) (hx : x < 125) (ha : tj_At rl vr W) (h1 : ∀ j, tj_Fst rl vr (4 * q) (cn q) r x j → post (nI j)) (h0 : (∀ j, j < cn q → ¬ (rl (4 * q + j) = r ∧ vr (4 * q + j) = x)) → post (-1)) :
    wpX_findAtom post (L, B, tj_A cn, tj_A ak, tj_A rl, tj_A vr, W, G, A, M) (nI q) (nI r) (nI x) :=
  ⟨vp_in_nI hq (by decide), nm_r (e' := nI (cn q)) (by rw [nI_clamp (by omega), tj_Ap]) ⟨cn q + 1, xx_find_l hq hc hr hx ha h1 h0 _ 0 (by omega) (by omega) (fun j hj => by omega)⟩⟩
end
section
variable {post : Int32 → SX → Prop} {L : Int32} {B W G A M : Nat → Int32} {cn ak rl vr : Nat → Nat}
theorem xx_ren62 {f t code : Nat} (hf : f < 2) (ht : t < 2) (hcf : cn f ≤ 4) (hct : cn t ≤ 4) (ha : tj_At rl vr W) (hG : tj_Gv G code) (h1 : ∀ R, tj_Im rl vr (tj_g code) (4 * f) (cn f) (4 * t) (cn t) R → post (nI R) (L, B, tj_A cn, tj_A ak, tj_A rl, tj_A vr, W, G, A, M))
    (h0 : (∃ i, i < cn f ∧ ∀ j, j < cn t → ¬ (rl (4 * t + j) = rl (4 * f + i) ∧ vr (4 * t + j) = tj_row (rl (4 * f + i)) (vr (4 * f + i)) (tj_g code))) → post 0 (L, B, tj_A cn, tj_A ak, tj_A rl, tj_A vr, W, G, A, M)) :
    ∀ n i R, i ≤ cn f → cn f - i < n → tj_Im rl vr (tj_g code) (4 * f) i (4 * t) (cn t) R → wX_renamedAtoms_62 post (nI f) (nI t) (nI (cn f)) L B (tj_A cn) (tj_A ak) (tj_A rl) (tj_A vr) W G A M n (nI R) (nI i) := by
  intro n
  induction n with
  | zero => intro i R _ h; omega
  | succ n ih =>
    intro i R k1 k2 hI
    rcases Nat.lt_or_ge i (cn f) with z | z
    · obtain ⟨a1, a2, a3⟩ := ha (4 * f + i) (by omega)
      have rlt := tj_row_lt (r := rl (4 * f + i)) (vs := vr (4 * f + i)) (fun v _ => tj_g_lt code v)
      have r5 : tj_row (rl (4 * f + i)) (vr (4 * f + i)) (tj_g code) < 125 := by rcases tj_on (rl (4 * f + i)) with ⟨_, _, _, _⟩ | ⟨_, _, _, _⟩ <;> omega
      refine br_f (nI_ge z (by omega)) (nm_r (tj_e4 f i) (xx_row (by omega) ha hG ⟨vp_in_nI (by omega) (by decide), ?_⟩))
      rw [nI_clamp (n := 4 * f + i) (by omega)]
      refine xx_find (r := rl (4 * f + i)) ht hct a1 r5 ha (fun j hj => br_t (nI_pos' (by have := hj.1; omega)) (nm_r (e' := nI (R ||| 2 ^ j)) (by rw [tj_shl (by have := hj.1; omega), tj_or]) (nm_r (nI_1 i) (ih (i + 1) _ (by omega) (by omega) (tj_Im_s hI hj))))) (fun no => br_f (by decide) (h0 ⟨i, z, no⟩))
    · have e : i = cn f := by omega
      rw [e]
      rw [e] at hI
      exact br_t (nI_le (Nat.le_refl _) (by omega)) (h1 R hI)
theorem xx_ren8 {f t code : Nat} (hf : f < 2) (ht : t < 2) (hcf : cn f ≤ 4) (hct : cn t ≤ 4) (hk : ak f < 32) (ha : tj_At rl vr W) (hG : tj_Gv G code) (h : ∀ R, tj_RS rl vr (ak f) (tj_g code) (4 * f) (cn f) (4 * t) (cn t) R → R < 16 → post (nI R) (L, B, tj_A cn, tj_A ak, tj_A rl, tj_A vr, W, G, A, M)) :
    ∀ n v, v ≤ 5 → 5 - v < n → (∀ w, w < v → (ak f).testBit w = true → tj_g code w = w) → wX_renamedAtoms_8 post (nI f) (nI t) L B (tj_A cn) (tj_A ak) (tj_A rl) (tj_A vr) W G A M n (nI v) := by
  intro n
  induction n with
  | zero => intro v _ h; omega
  | succ n ih =>
    intro v k1 k2 hv
    rcases Nat.lt_or_ge v 5 with z | z
    · have nx : ((ak f).testBit v = true → tj_g code v = v) → wX_renamedAtoms_8 post (nI f) (nI t) L B (tj_A cn) (tj_A ak) (tj_A rl) (tj_A vr) W G A M n (nI (v + 1)) := by
        intro q
        refine ih (v + 1) (by omega) (by omega) (fun w hw => ?_)
        by_cases e : w = v
        · subst e; exact q
        · exact hv w (by omega)
      refine br_f (nI_ge (b := 5) z (by decide)) ⟨vp_in_nI hf (by decide), ?_⟩
      show wpX_has _ (tj_A ak (nI f).toNatClampNeg) _
      rw [nI_clamp (n := f) (by omega), tj_Ap]
      refine xx_has (by omega) (by omega) (fun hb => br_f (by decide) ⟨vp_in_nI z (by decide), ?_⟩) (fun hb => br_t rfl (nm_r (nI_1 v) (nx (fun y => by rw [hb] at y; exact absurd y (by decide)))))
      have := tj_g_lt code v
      rw [nI_clamp (by omega), hG v z]
      exact pk_eq (tj_g code v) v (fun e => nm_r (nI_1 v) (nx (fun _ => e))) (fun e => h 0 (Or.inl ⟨rfl, fun A hA => e (hA.1 v z hb)⟩) (by decide))
    · have e : v = 5 := by omega
      subst e
      refine br_t (by decide) ⟨vp_in_nI hf (by decide), nm_r (e' := nI (cn f)) (by rw [nI_clamp (by omega), tj_Ap]) ⟨cn f + 1, xx_ren62 hf ht hcf hct ha hG (fun R hR => h R (Or.inr ⟨hv, hR⟩) ?_) (fun ⟨i, hi, no⟩ => h 0 (Or.inl ⟨rfl, fun A hA => ?_⟩) (by decide)) _ 0 0 (by omega) (by omega) tj_Im_0⟩⟩
      · have p := tj_p1 hct
        have := tj_Im_lt hR
        omega
      · obtain ⟨j, hj, _, e1, e2⟩ := hA.2 i hi
        exact no j hj ⟨e1, e2⟩
theorem xx_ren {f t code : Nat} (hf : f < 2) (ht : t < 2) (hcf : cn f ≤ 4) (hct : cn t ≤ 4) (hk : ak f < 32) (ha : tj_At rl vr W) (hc : code < 2 ^ 31) (h : ∀ G R, tj_RS rl vr (ak f) (tj_g code) (4 * f) (cn f) (4 * t) (cn t) R → R < 16 → post (nI R) (L, B, tj_A cn, tj_A ak, tj_A rl, tj_A vr, W, G, A, M)) : wpX_renamedAtoms post (L, B, tj_A cn, tj_A ak, tj_A rl, tj_A vr, W, G, A, M) (nI f) (nI t) (nI code) := by
  unfold wpX_renamedAtoms
  refine xx_give hc (fun G' hG' => ⟨6, ?_⟩)
  exact xx_ren8 hf ht hcf hct hk ha hG' (fun R a b => h G' R a b) 6 0 (by omega) (by omega) (fun w hw => by omega)
end
end
section
/-! X: tree-like, scans, least -/
def tj_H (rl vr : Nat → Nat) (q s i : Nat) : Prop := ∃ j, j < 4 ∧ (tj_mi s (2 ^ i)).testBit j = true ∧ tj_mi (tj_so (rl (4 * q + i)) (vr (4 * q + i)) &&& tj_vo (fun i => tj_so (rl (4 * q + i)) (vr (4 * q + i))) (tj_mi s (2 ^ i)) 4) (tj_so (rl (4 * q + j)) (vr (4 * q + j))) = 0
theorem tj_and_lt {a b n : Nat} (h : a < n) : a &&& b < n := Nat.lt_of_le_of_lt Nat.and_le_left h
theorem tj_2p : ∀ i, i < 4 → 2 ^ i < 32 := by decide
theorem tj_k0_t {f : Nat → Bool} {a : Nat} (h : f a = true) : tj_k f 0 (a + 1) = tj_k f 0 a + 1 := by
  show tj_k f 0 a + (if f (0 + a) = true then 1 else 0) = _
  rw [Nat.zero_add, if_pos h]
theorem tj_k0_f {f : Nat → Bool} {a : Nat} (h : ¬ f a = true) : tj_k f 0 (a + 1) = tj_k f 0 a := by
  show tj_k f 0 a + (if f (0 + a) = true then 1 else 0) = _
  rw [Nat.zero_add, if_neg h, Nat.add_zero]
theorem tj_SY_lt {H : Nat → Nat → Prop} {s t : Nat} (hs : s < 16) (h : tj_SY H s t) : t < 16 := by
  rcases h with ⟨i, _, _, _, _, e⟩ | ⟨_, e⟩
  · rw [e]; exact tj_mi_lt hs
  · rw [e]; exact hs
section
variable {post : Int32 → Prop} {L : Int32} {B W G A M : Nat → Int32} {cn ak rl vr : Nat → Nat}
theorem xx_hang_l {q o sh : Nat} (hq : q < 2) (ho : o < 16) (hs : sh < 32) (ha : tj_At rl vr W) (h1 : (∃ j, j < 4 ∧ o.testBit j = true ∧ tj_mi sh (tj_so (rl (4 * q + j)) (vr (4 * q + j))) = 0) → post 1) (h0 : ¬ (∃ j, j < 4 ∧ o.testBit j = true ∧ tj_mi sh (tj_so (rl (4 * q + j)) (vr (4 * q + j))) = 0) → post 0) :
    ∀ n j, j ≤ 4 → 4 - j < n → (∀ i, i < j → ¬ (o.testBit i = true ∧ tj_mi sh (tj_so (rl (4 * q + i)) (vr (4 * q + i))) = 0)) → wX_hangsOnOne_24 post (nI q) (nI o) (nI sh) L B (tj_A cn) (tj_A ak) (tj_A rl) (tj_A vr) W G A M n (nI j) := by
  intro n
  induction n with
  | zero => intro j _ h; omega
  | succ n ih =>
    intro j k1 k2 hn
    rcases Nat.lt_or_ge j 4 with z | z
    · have nx : ¬ (o.testBit j = true ∧ tj_mi sh (tj_so (rl (4 * q + j)) (vr (4 * q + j))) = 0) → wX_hangsOnOne_24 post (nI q) (nI o) (nI sh) L B (tj_A cn) (tj_A ak) (tj_A rl) (tj_A vr) W G A M n (nI (j + 1)) := by
        intro hne
        refine ih (j + 1) (by omega) (by omega) (fun i hi => ?_)
        by_cases e : i = j
        · subst e; exact hne
        · exact hn i (by omega)
      refine br_f (nI_ge (b := 4) z (by decide)) (xx_has (by omega) (by omega) (fun hb => br_f (by decide) ?_) (fun hb => br_t rfl (nm_r (nI_1 j) (nx (fun y => by rw [hb] at y; exact absurd y.1 (by decide))))))
      rw [tj_shl (by omega)]
      refine xx_vo hq (Nat.lt_trans (tj_2p j z) (by decide)) ha ?_
      rw [tj_vo_1 z, tj_miI _ hs _ (tj_so_lt _ _)]
      exact pk_eq (tj_mi sh (tj_so (rl (4 * q + j)) (vr (4 * q + j)))) 0 (fun e => h1 ⟨j, z, hb, e⟩) (fun e => nm_r (nI_1 j) (nx (fun y => e y.2))) rfl rfl (Nat.lt_trans (tj_mi_lt hs) (by decide)) (by decide)
    · have e : j = 4 := by omega
      subst e
      exact br_t (by decide) (h0 (fun ⟨j, hj, y⟩ => hn j hj y))
theorem xx_hang {q i s : Nat} (hq : q < 2) (hi : i < 4) (hs : s < 16) (ha : tj_At rl vr W) (h1 : tj_H rl vr q s i → post 1) (h0 : ¬ tj_H rl vr q s i → post 0) : wpX_hangsOnOne post (L, B, tj_A cn, tj_A ak, tj_A rl, tj_A vr, W, G, A, M) (nI q) (nI i) (nI (tj_mi s (2 ^ i))) := by
  have ml : tj_mi s (2 ^ i) < 16 := tj_mi_lt hs
  unfold wpX_hangsOnOne
  dsimp only
  rw [tj_shl (by omega)]
  refine xx_vo hq (Nat.lt_trans (tj_2p i hi) (by decide)) ha (xx_vo hq (by omega) ha ?_)
  rw [tj_vo_1 hi, nx_and]
  exact nm_e ⟨5, xx_hang_l hq ml (tj_and_lt (tj_so_lt _ _)) ha h1 h0 5 0 (by omega) (by omega) (fun j hj => by omega)⟩
theorem xx_wo_l {q s : Nat} (hq : q < 2) (hs : s < 16) (ha : tj_At rl vr W) (h : ∀ t, tj_SY (tj_HX (tj_H rl vr q)) s t → post (nI t)) :
    ∀ n i, i ≤ 4 → 4 - i < n → (∀ j, j < i → s.testBit j = true → ¬ tj_HX (tj_H rl vr q) s j) → wX_withoutOne_2 post (nI q) (nI s) L B (tj_A cn) (tj_A ak) (tj_A rl) (tj_A vr) W G A M n (nI i) := by
  intro n
  induction n with
  | zero => intro j _ h; omega
  | succ n ih =>
    intro i k1 k2 hn
    rcases Nat.lt_or_ge i 4 with z | z
    · have nx : (s.testBit i = true → ¬ tj_HX (tj_H rl vr q) s i) → wX_withoutOne_2 post (nI q) (nI s) L B (tj_A cn) (tj_A ak) (tj_A rl) (tj_A vr) W G A M n (nI (i + 1)) := by
        intro hne
        refine ih (i + 1) (by omega) (by omega) (fun j hj => ?_)
        by_cases e : j = i
        · subst e; exact hne
        · exact hn j (by omega)
      have e5 : nI s &&& (((1 : Int32) <<< (nI i &&& 31)) ^^^ (-1)) = nI (tj_mi s (2 ^ i)) := by rw [tj_shl (by omega), tj_miI s (by omega) _ (tj_2p i z)]
      refine br_f (nI_ge (b := 4) z (by decide)) (xx_has (by omega) (by omega) (fun hb => br_f (by decide) (nm_r e5 ?_)) (fun hb => br_t rfl (nm_r (nI_1 i) (nx (fun y => by rw [hb] at y; exact absurd y (by decide))))))
      have ml : tj_mi s (2 ^ i) < 16 := tj_mi_lt hs
      refine pk_eq (tj_mi s (2 ^ i)) 0 (fun e => h _ (Or.inl ⟨i, z, hb, Or.inl e, hn, rfl⟩)) (fun e => xx_hang hq z hs ha (fun hH => br_f (by decide) (h _ (Or.inl ⟨i, z, hb, Or.inr hH, hn, rfl⟩))) (fun hH => br_t rfl (nm_r (nI_1 i) (nx (fun _ y => y.elim e hH)))))
    · have e : i = 4 := by omega
      subst e
      exact br_t (by decide) (h s (Or.inr ⟨hn, rfl⟩))
theorem xx_wo {q s : Nat} (hq : q < 2) (hs : s < 16) (ha : tj_At rl vr W) (h : ∀ t, tj_SY (tj_HX (tj_H rl vr q)) s t → post (nI t)) : wpX_withoutOne post (L, B, tj_A cn, tj_A ak, tj_A rl, tj_A vr, W, G, A, M) (nI q) (nI s) :=
  ⟨5, xx_wo_l hq hs ha h 5 0 (by omega) (by omega) (fun j hj => by omega)⟩
theorem xx_tree_l {q : Nat} (hq : q < 2) (ha : tj_At rl vr W) : ∀ n k s, k ≤ 4 → 4 - k < n → s < 16 → (∀ e, tj_chn (tj_SY (tj_HX (tj_H rl vr q))) (4 - k) s e → (e = 0 → post 1) ∧ (e ≠ 0 → post 0)) → wX_treeLike_17 post (nI q) L B (tj_A cn) (tj_A ak) (tj_A rl) (tj_A vr) W G A M n (nI s) (nI k) := by
  intro n
  induction n with
  | zero => intro k s _ h; omega
  | succ n ih =>
    intro k s k1 k2 hs h
    rcases Nat.lt_or_ge k 4 with z | z
    · refine br_f (nI_ge (b := 4) z (by decide)) (xx_wo hq hs ha (fun t ht => nm_r (nI_1 k) (ih (k + 1) t (by omega) (by omega) (tj_SY_lt hs ht) (fun e he => h e ?_))))
      rw [show 4 - k = 4 - (k + 1) + 1 by omega]
      exact ⟨t, ht, he⟩
    · have e : k = 4 := by omega
      subst e
      obtain ⟨p1, p0⟩ := h s rfl
      exact br_t (by decide) (pk_eq s 0 p1 p0)
end
section
variable {post : Int32 → SX → Prop} {L : Int32} {B W G A M : Nat → Int32} {cn ak rl vr : Nat → Nat}
theorem xx_count_l (h : post (nI (tj_k (tj_m A) 0 3125)) (L, B, tj_A cn, tj_A ak, tj_A rl, tj_A vr, W, G, A, M)) : ∀ n a, a ≤ 3125 → 3125 - a < n → wX_count_29 post L B (tj_A cn) (tj_A ak) (tj_A rl) (tj_A vr) W G A M n (nI (tj_k (tj_m A) 0 a)) (nI a) := by
  intro n
  induction n with
  | zero => intro a _ h; omega
  | succ n ih =>
    intro a k1 k2
    rcases Nat.lt_or_ge a 3125 with z | z
    · have k := ih (a + 1) (by omega) (by omega)
      refine br_f (nI_ge (b := 3125) z (by decide)) ⟨vp_in_nI z (by decide), ?_⟩
      rw [nI_clamp (by omega)]
      refine br_c (fun e => nm_r (nI_1 a) ?_) (fun e => nm_r (nI_1 _) (nm_r (nI_1 a) ?_))
      · rw [tj_k0_f (by unfold tj_m; rw [decide_eq_true_eq]; exact fun y => y e)] at k
        exact k
      · rw [tj_k0_t (by unfold tj_m; rw [decide_eq_true_eq]; exact e)] at k
        exact k
    · have e : a = 3125 := by omega
      subst e
      exact br_t (by decide) h
theorem xx_answer_l {x : Int32} : ∀ n a b, a ≤ 3125 → 3125 - a < n → post (tj_fa A x (3125 - a) a b) (L, B, tj_A cn, tj_A ak, tj_A rl, tj_A vr, W, G, A, M) → wX_answer_34 post x L B (tj_A cn) (tj_A ak) (tj_A rl) (tj_A vr) W G A M n (nI b) (nI a) := by
  intro n
  induction n with
  | zero => intro a b _ h; omega
  | succ n ih =>
    intro a b k1 k2 h
    rcases Nat.lt_or_ge a 3125 with z | z
    · have e3 : 3125 - a = (3125 - (a + 1)) + 1 := by omega
      rw [e3, show tj_fa A x (3125 - (a + 1) + 1) a b = if A a = 0 then tj_fa A x (3125 - (a + 1)) (a + 1) b else if nI b = x then nI a else tj_fa A x (3125 - (a + 1)) (a + 1) (b + 1) from rfl] at h
      refine br_f (nI_ge (b := 3125) z (by decide)) ⟨vp_in_nI z (by decide), ?_⟩
      rw [nI_clamp (by omega)]
      refine br_c (fun e => nm_r (nI_1 a) (ih _ _ (by omega) (by omega) ?_)) (fun e => br_c (fun e2 => ?_) (fun e2 => nm_r (nI_1 b) (nm_r (nI_1 a) (ih _ _ (by omega) (by omega) ?_))))
      · rw [if_pos e] at h; exact h
      · rw [if_neg e, if_pos e2] at h; exact h
      · rw [if_neg e, if_neg e2] at h; exact h
    · have e : a = 3125 := by omega
      subst e
      exact br_t (by decide) h
theorem xx_often_l {x p : Nat} (hx : x < 5) (hp : p < 5) (h : post (nI (tj_k (fun a => tj_m A a && decide (a / 5 ^ p % 5 = x)) 0 3125)) (L, B, tj_A cn, tj_A ak, tj_A rl, tj_A vr, W, G, A, M)) : ∀ n a, a ≤ 3125 → 3125 - a < n → wX_often_70 post (nI x) (nI p) L B (tj_A cn) (tj_A ak) (tj_A rl) (tj_A vr) W G A M n (nI (tj_k (fun a => tj_m A a && decide (a / 5 ^ p % 5 = x)) 0 a)) (nI a) := by
  intro n
  induction n with
  | zero => intro a _ h; omega
  | succ n ih =>
    intro a k1 k2
    rcases Nat.lt_or_ge a 3125 with z | z
    · have k := ih (a + 1) (by omega) (by omega)
      have d5 : a / 5 ^ p % 5 < 5 := Nat.mod_lt _ (by decide)
      refine br_f (nI_ge (b := 3125) z (by decide)) ⟨vp_in_nI z (by decide), ?_⟩
      rw [nI_clamp (by omega)]
      refine br_c (fun e => nm_r (nI_1 a) ?_) (fun e => xx_dig (by omega) (by omega) (pk_eq (a / 5 ^ p % 5) x (fun e2 => nm_r (nI_1 _) (nm_r (nI_1 a) ?_)) (fun e2 => nm_r (nI_1 a) ?_)))
      · rw [tj_k0_f (by simp [tj_m, e])] at k
        exact k
      · rw [tj_k0_t (by simp [tj_m, e, e2])] at k
        exact k
      · rw [tj_k0_f (by simp [tj_m, e, e2])] at k
        exact k
    · have e : a = 3125 := by omega
      subst e
      exact br_t (by decide) h
theorem tj_dec (N c : Nat) : nI N - nI c + (-1) = nI N - nI (c + 1) := by
  rw [← nI_1]
  grind
theorem xx_idle56 {N : Nat} (h : post (nI N - nI (tj_k (tj_m M) 0 468)) (L, B, tj_A cn, tj_A ak, tj_A rl, tj_A vr, W, G, A, M)) : ∀ n a, a ≤ 468 → 468 - a < n → wX_idle_56 post L B (tj_A cn) (tj_A ak) (tj_A rl) (tj_A vr) W G A M n (nI N - nI (tj_k (tj_m M) 0 a)) (nI a) := by
  intro n
  induction n with
  | zero => intro a _ h; omega
  | succ n ih =>
    intro a k1 k2
    rcases Nat.lt_or_ge a 468 with z | z
    · have k := ih (a + 1) (by omega) (by omega)
      refine br_f (nI_ge (b := 468) z (by decide)) ⟨vp_in_nI z (by decide), ?_⟩
      rw [nI_clamp (by omega)]
      refine br_c (fun e => nm_r (nI_1 a) ?_) (fun e => nm_r (tj_dec _ _) (nm_r (nI_1 a) ?_))
      · rw [tj_k0_f (by unfold tj_m; rw [decide_eq_true_eq]; exact fun y => y e)] at k
        exact k
      · rw [tj_k0_t (by unfold tj_m; rw [decide_eq_true_eq]; exact e)] at k
        exact k
    · have e : a = 468 := by omega
      subst e
      exact br_t (by decide) h
theorem xx_idle30 {a b c : Nat} (e0 : B 0 = nI a) (e1 : B 156 = nI b) (e2 : B 312 = nI c) (h : post (nI (a + b + c) - nI (tj_k (tj_m M) 0 468)) (L, B, tj_A cn, tj_A ak, tj_A rl, tj_A vr, W, G, A, M)) : ∃ n, wX_idle_30 post L B (tj_A cn) (tj_A ak) (tj_A rl) (tj_A vr) W G A M n 0 0 := by
  refine ⟨4, br_f (by decide) ⟨by rw [vp_in_iff]; decide, nm_e (nm_e (br_f (by decide) ⟨by rw [vp_in_iff]; decide, nm_e (nm_e (br_f (by decide) ⟨by rw [vp_in_iff]; decide, nm_e (nm_e (br_t (by decide) ⟨469, ?_⟩))⟩))⟩))⟩⟩
  have k := xx_idle56 (post := post) (L := L) (B := B) (W := W) (G := G) (A := A) (M := M) (cn := cn) (ak := ak) (rl := rl) (vr := vr) (N := a + b + c) h 469 0 (by omega) (by omega)
  have e : (0 : Int32) + B ((0 : Int32) * 156).toNatClampNeg + B (((0 : Int32) + 1) * 156).toNatClampNeg + B (((0 : Int32) + 1 + 1) * 156).toNatClampNeg = nI (a + b + c) - nI (tj_k (tj_m M) 0 0) := by
    show (0 : Int32) + B 0 + B 156 + B 312 = nI (a + b + c) - nI 0
    rw [e0, e1, e2, nI_0, Int32.zero_add, nI_add, nI_add, Int32.sub_zero]
  rw [e]
  exact k
theorem xx_within_l {q o : Nat} (hq : q < 2) (ho : o < 2) (hcq : cn q ≤ 4) (hco : cn o ≤ 4) (h0 : 0 < cn o) (hk : ak o < 32) (ha : tj_At rl vr W) (h1 : (∃ d, d < 3125 ∧ tj_Into rl vr (ak o) (tj_g d) (4 * o) (cn o) (4 * q) (cn q) (2 ^ cn q - 1)) → ∀ G, post 1 (L, B, tj_A cn, tj_A ak, tj_A rl, tj_A vr, W, G, A, M))
    (hz : ¬ (∃ d, d < 3125 ∧ tj_Into rl vr (ak o) (tj_g d) (4 * o) (cn o) (4 * q) (cn q) (2 ^ cn q - 1)) → ∀ G, post 0 (L, B, tj_A cn, tj_A ak, tj_A rl, tj_A vr, W, G, A, M)) :
    ∀ n c G, c ≤ 3125 → 3125 - c < n → (∀ d, d < c → ¬ tj_Into rl vr (ak o) (tj_g d) (4 * o) (cn o) (4 * q) (cn q) (2 ^ cn q - 1)) → wX_within_49 post (nI q) (nI o) n (nI c) L B (tj_A cn) (tj_A ak) (tj_A rl) (tj_A vr) W G A M := by
  intro n
  induction n with
  | zero => intro c G _ h; omega
  | succ n ih =>
    intro c G k1 k2 hn
    rcases Nat.lt_or_ge c 3125 with z | z
    · refine br_f (nI_ge (b := 3125) z (by decide)) (xx_ren ho hq hco hcq hk ha (by omega) (fun G' R hR hl => ?_))
      rcases hR with ⟨e, no⟩ | ⟨hf, hi⟩
      · subst e
        refine br_t rfl (nm_r (nI_1 c) (ih (c + 1) G' (by omega) (by omega) (fun d hd => ?_)))
        by_cases e : d = c
        · subst e; exact no _
        · exact hn d (by omega)
      · exact br_f (nI_ne0 (Nat.pos_of_ne_zero (tj_Im_ne hi h0)) (by omega)) (h1 ⟨c, z, tj_Into_all (tj_Im_into hf hi)⟩ G')
    · have e : c = 3125 := by omega
      subst e
      exact br_t (by decide) (hz (fun ⟨d, hd, y⟩ => hn d hd y) G)
theorem xx_small_l {q : Nat} (hq : q < 2) (hc : cn q ≤ 4) (h0 : 0 < cn q) (hk : ak q < 32) (ha : tj_At rl vr W) (h : ∀ m G, tj_Le (tj_SX rl vr (ak q) (4 * q) (cn q) 3125) (cn q) m → post (nI m) (L, B, tj_A cn, tj_A ak, tj_A rl, tj_A vr, W, G, A, M)) :
    ∀ n c m G, c ≤ 3125 → 3125 - c < n → tj_Le (tj_SX rl vr (ak q) (4 * q) (cn q) c) (cn q) m → wX_smallest_29 post (nI q) n (nI m) (nI c) L B (tj_A cn) (tj_A ak) (tj_A rl) (tj_A vr) W G A M := by
  intro n
  induction n with
  | zero => intro c m G _ h; omega
  | succ n ih =>
    intro c m G k1 k2 hm
    have m4 := hm.1
    rcases Nat.lt_or_ge c 3125 with z | z
    · refine br_f (nI_ge (b := 3125) z (by decide)) (xx_ren hq hq hc hc hk ha (by omega) (fun G' R hR hl => xx_size hl ?_))
      have s4 := tj_s_le R hl
      refine pk_eq R 0 (fun e => nm_r (nI_1 c) (ih (c + 1) m G' (by omega) (by omega) (tj_SX_up hm hR (fun y => absurd e y) h0))) (fun e => pk_le m (tj_s R) (fun le => nm_r (nI_1 c) (ih (c + 1) m G' (by omega) (by omega) (tj_SX_up hm hR (fun _ => le) h0))) (fun gt => nm_r (nI_1 c) (ih (c + 1) _ G' (by omega) (by omega) ?_)))
      rcases hR with ⟨e', _⟩ | ⟨hf, hi⟩
      · exact absurd e' e
      · exact tj_SX_dn hm hf hi gt
    · have e : c = 3125 := by omega
      subst e
      exact br_t (by decide) (h m G hm)
end
end
section
/-! Y: small methods -/
section
variable {post : Int32 → Prop} {th : Nat → Bool} {D E : Nat → Int32} {cn ak rl vr : Nat → Nat}
theorem yy_cols {r : Nat} (hr : r < 3) (h : post (nI (tj_w r))) : wpY_columns post (tj_T th, tj_A cn, tj_A rl, tj_A vr, tj_A ak, D, E) (nI r) := by
  rcases tj_on r with ⟨e, w, _, _⟩ | ⟨e, w, _, _⟩
  · rw [w] at h
    subst e
    exact br_t rfl h
  · rw [w] at h
    exact br_f (tj_n2 hr e) h
theorem yy_isQ {q : Nat} (hq : q < 2) (h : post 1) : wpY_isQuestion post (tj_T th, tj_A cn, tj_A rl, tj_A vr, tj_A ak, D, E) (nI q) := by
  have : q = 0 ∨ q = 1 := by omega
  rcases this with rfl | rfl
  · exact br_t rfl h
  · exact br_f (by decide) (br_t rfl h)
theorem yy_nQ {q : Int32} (hq : ∀ j, j < 2 → q ≠ nI j) (h : post 0) : wpY_isQuestion post (tj_T th, tj_A cn, tj_A rl, tj_A vr, tj_A ak, D, E) q :=
  br_f (hq 0 (by decide)) (br_f (hq 1 (by decide)) h)
theorem yy_isRow {r row : Nat} (hr : r < 3) (hw : row < tj_n r) (h : post 1) : wpY_isRow post (tj_T th, tj_A cn, tj_A rl, tj_A vr, tj_A ak, D, E) (nI r) (nI row) := by
  have hn : tj_n r ≤ 125 := by rcases tj_on r with ⟨_, _, _, _⟩ | ⟨_, _, _, _⟩ <;> omega
  refine br_f (nI_pos (by omega)) (br_f (nI_nlt (a := 2) (by omega) (by decide)) (br_f (nI_pos (by omega)) ?_))
  rcases tj_on r with ⟨e, _, n, _⟩ | ⟨e, _, n, _⟩
  · subst e
    exact br_t rfl (br_f (nI_nlt (a := 124) (by omega) (by decide)) h)
  · exact br_f (tj_n2 hr e) (br_f (nI_nlt (a := 24) (by omega) (by decide)) h)
theorem tj_lt_le {a : Nat} {x : Int32} (ha : a + 1 < 2 ^ 31) (h : nI (a + 1) ≤ x) : nI a < x := Int32.lt_of_lt_of_le (nI_lt (Nat.lt_succ_self a) ha) h
theorem yy_nRow {r row : Int32} (hn : ∀ a b, a < 3 → b < tj_n a → r = nI a → row ≠ nI b) (h : post 0) : wpY_isRow post (tj_T th, tj_A cn, tj_A rl, tj_A vr, tj_A ak, D, E) r row := by
  rcases pk_ix r (n := 3) (by decide) with z | z | ⟨a, ha, e⟩
  · exact br_t z h
  · exact br_c (fun _ => h) (fun _ => br_t (tj_lt_le (a := 2) (by decide) z) h)
  · subst e
    have h5 : tj_n a ≤ 125 := by rcases tj_on a with ⟨_, _, _, _⟩ | ⟨_, _, _, _⟩ <;> omega
    refine br_f (nI_pos (by omega)) (br_f (nI_nlt (a := 2) (by omega) (by decide)) ?_)
    rcases pk_ix row (n := tj_n a) (by omega) with z | z | ⟨j, hj, e⟩
    · exact br_t z h
    · refine br_c (fun _ => h) (fun _ => ?_)
      rcases tj_on a with ⟨e, _, n, _⟩ | ⟨e, _, n, _⟩
      · rw [n] at z
        subst e
        exact br_t rfl (br_t (tj_lt_le (a := 124) (by decide) z) h)
      · rw [n] at z
        exact br_f (tj_n2 ha e) (br_t (tj_lt_le (a := 24) (by decide) z) h)
    · exact absurd e (hn a j ha hj rfl)
theorem yy_in {s m : Nat} (hs : s < 2 ^ 31) (hm : m < 32) (f : s.testBit m = true → post 1) (g : s.testBit m = false → post 0) : wpY_in post (tj_T th, tj_A cn, tj_A rl, tj_A vr, tj_A ak, D, E) (nI s) (nI m) :=
  tj_hasP hs hm f g
theorem tj_ks_t {f : Nat → Bool} {lo a : Nat} (h : f (lo + a) = true) : tj_k f lo (a + 1) = tj_k f lo a + 1 := by
  show tj_k f lo a + (if f (lo + a) = true then 1 else 0) = _
  rw [if_pos h]
theorem tj_ks_f {f : Nat → Bool} {lo a : Nat} (h : f (lo + a) = false) : tj_k f lo (a + 1) = tj_k f lo a := by
  show tj_k f lo a + (if f (lo + a) = true then 1 else 0) = _
  rw [if_neg (by rw [h]; decide), Nat.add_zero]
theorem tj_T_n {f : Nat → Bool} {k : Nat} (h : ¬ tj_T f k = 0) : f k = true := by
  cases e : f k with
  | true => rfl
  | false => exact absurd (tj_T_f.mpr e) h
theorem yy_rows_l {r : Nat} (hr : r < 3) (h : post (nI (tj_k th (125 * r) 125))) : ∀ n k, k ≤ 125 → 125 - k < n → wY_rows_15 post (nI r) (tj_T th) (tj_A cn) (tj_A rl) (tj_A vr) (tj_A ak) D E n (nI (tj_k th (125 * r) k)) (nI k) := by
  intro n
  induction n with
  | zero => intro k _ h; omega
  | succ n ih =>
    intro k k1 k2
    rcases Nat.lt_or_ge k 125 with z | z
    · have q := ih (k + 1) (by omega) (by omega)
      refine br_f (nI_ge (b := 125) z (by decide)) ⟨pk_in (125 * r + k) 375 (by omega) (tj_e125 r k), ?_⟩
      rw [tj_e125, nI_clamp (by omega)]
      refine br_c (fun e => nm_r (nI_1 k) ?_) (fun e => nm_r (nI_1 _) (nm_r (nI_1 k) ?_))
      · rw [tj_ks_f (tj_T_f.mp e)] at q
        exact q
      · rw [tj_ks_t (tj_T_n e)] at q
        exact q
    · have e : k = 125 := by omega
      subst e
      exact br_t (by decide) h
theorem yy_rows {r : Nat} (hr : r < 3) (h : post (nI (tj_k th (125 * r) 125))) : wpY_rows post (tj_T th, tj_A cn, tj_A rl, tj_A vr, tj_A ak, D, E) (nI r) :=
  br_f (nI_pos (by omega)) (br_t (nI_le (b := 2) (by omega) (by decide)) ⟨126, yy_rows_l hr h 126 0 (by omega) (by omega)⟩)
theorem yy_col_l {r row c : Nat} (hr : r < 3) (hb : row < 2 ^ 31) (hc : c < tj_w r) (h : post (nI (tj_c r row c))) : ∀ n j, c + 1 + j ≤ tj_w r → tj_w r - (c + 1 + j) < n → wY_column_8 post (nI r) (tj_T th) (tj_A cn) (tj_A rl) (tj_A vr) (tj_A ak) D E n (nI (row / 5 ^ j)) (nI (c + 1 + j)) := by
  have hw : tj_w r ≤ 3 := by rcases tj_w_2 r with h | h <;> omega
  have bd : ∀ p, row / 5 ^ p < 2 ^ 31 := fun p => Nat.lt_of_le_of_lt (Nat.div_le_self _ _) hb
  intro n
  induction n with
  | zero => intro k _ h; omega
  | succ n ih =>
    intro j k1 k2
    unfold wY_column_8
    refine yy_cols hr (pk_le (tj_w r) (c + 1 + j) (fun le => ⟨by decide, ?_⟩) (fun gt => ⟨by decide, nm_r (e' := nI (row / 5 ^ (j + 1))) ?_ (nm_r (nI_1 _) (ih (j + 1) (by omega) (by omega)))⟩))
    · have e : j = tj_w r - 1 - c := by omega
      subst e
      have e := pk_rem (d := 5) (bd (tj_w r - 1 - c)) (by decide) (by decide)
      show post (nI (row / 5 ^ (tj_w r - 1 - c)) - nI (row / 5 ^ (tj_w r - 1 - c)) / nI 5 * nI 5)
      rw [e]
      exact h
    · rw [tj_dv_5 (bd j), Nat.div_div_eq_div_mul, ← Nat.pow_succ]
theorem yy_col {r row c : Nat} (hr : r < 3) (hb : row < 2 ^ 31) (hc : c < tj_w r) (h : post (nI (tj_c r row c))) : wpY_column post (tj_T th, tj_A cn, tj_A rl, tj_A vr, tj_A ak, D, E) (nI r) (nI row) (nI c) := by
  have k := yy_col_l (th := th) (cn := cn) (ak := ak) (rl := rl) (vr := vr) (D := D) (E := E) hr hb hc h (tj_w r + 1) 0 (by omega) (by omega)
  rw [Nat.pow_zero, Nat.div_one] at k
  exact nm_r (nI_1 c) ⟨_, k⟩
theorem yy_set_l {p : Nat} (hp : p < 8) (hr : rl p < 3) (hv : vr p < 2 ^ 31) (h : post (nI (tj_so (rl p) (vr p)))) : ∀ n c, c ≤ tj_w (rl p) → tj_w (rl p) - c < n → wY_setOf_4 post (nI p) (tj_T th) (tj_A cn) (tj_A rl) (tj_A vr) (tj_A ak) D E n (nI (tj_sp (rl p) (vr p) c)) (nI c) := by
  have hw : tj_w (rl p) ≤ 3 := by rcases tj_w_2 (rl p) with h | h <;> omega
  intro n
  induction n with
  | zero => intro k _ h; omega
  | succ n ih =>
    intro c k1 k2
    refine ⟨vp_in_nI hp (by decide), ?_⟩
    rw [nI_clamp (n := p) (by omega)]
    refine yy_cols hr (pk_le (tj_w (rl p)) c (fun le => ?_) (fun gt => ⟨vp_in_nI hp (by decide), vp_in_nI hp (by decide), yy_col hr hv gt (nm_r (e' := nI (tj_sp (rl p) (vr p) (c + 1))) ?_ (nm_r (nI_1 c) (ih (c + 1) (by omega) (by omega))))⟩))
    · have e : c = tj_w (rl p) := by omega
      rw [e]
      exact h
    · have := tj_c_lt (rl p) (vr p) c
      rw [tj_shl (by omega), tj_or]
      rfl
theorem yy_set {p : Nat} (hp : p < 8) (hr : rl p < 3) (hv : vr p < 2 ^ 31) (h : post (nI (tj_so (rl p) (vr p)))) : wpY_setOf post (tj_T th, tj_A cn, tj_A rl, tj_A vr, tj_A ak, D, E) (nI p) :=
  ⟨_, yy_set_l hp hr hv h (tj_w (rl p) + 1) 0 (by omega) (by omega)⟩
end
/-- the atoms of Y -/
def tj_Ay (rl vr : Nat → Nat) : Prop := ∀ p, p < 8 → rl p < 3 ∧ vr p < tj_n (rl p)
theorem tj_Ay_b {rl vr : Nat → Nat} (h : tj_Ay rl vr) {p : Nat} (hp : p < 8) : rl p < 3 ∧ vr p < 125 := by
  obtain ⟨a, b⟩ := h p hp
  refine ⟨a, ?_⟩
  rcases tj_on (rl p) with ⟨_, _, _, _⟩ | ⟨_, _, _, _⟩ <;> omega
section
variable {post : Int32 → Prop} {th : Nat → Bool} {D E : Nat → Int32} {cn ak rl vr : Nat → Nat}
theorem yy_vo_l {q s : Nat} (hq : q < 2) (hc : cn q ≤ 4) (hs : s < 2 ^ 31) (ha : tj_Ay rl vr) (h : post (nI (tj_vo (fun i => tj_so (rl (4 * q + i)) (vr (4 * q + i))) s (cn q)))) : ∀ n i, i ≤ cn q → cn q - i < n → wY_variablesOf_5 post (nI q) (nI s) (tj_T th) (tj_A cn) (tj_A rl) (tj_A vr) (tj_A ak) D E n (nI (tj_vo (fun i => tj_so (rl (4 * q + i)) (vr (4 * q + i))) s i)) (nI i) := by
  intro n
  induction n with
  | zero => intro k _ h; omega
  | succ n ih =>
    intro i k1 k2
    refine ⟨vp_in_nI hq (by decide), ?_⟩
    rw [nI_clamp (n := q) (by omega)]
    refine pk_le (cn q) i (fun le => ?_) (fun gt => ?_)
    · have e : i = cn q := by omega
      rw [e]
      exact h
    · have k := ih (i + 1) (by omega) (by omega)
      obtain ⟨a1, a2⟩ := tj_Ay_b ha (show 4 * q + i < 8 by omega)
      refine yy_in hs (by omega) (fun ht => br_f (by decide) ?_) (fun hf => br_t rfl (nm_r (nI_1 i) ?_))
      · rw [tj_f4]
        refine yy_set (by omega) a1 (by omega) (nm_r (tj_or _ _) (nm_r (nI_1 i) ?_))
        have e2 : tj_vo (fun i => tj_so (rl (4 * q + i)) (vr (4 * q + i))) s (i + 1) = tj_vo (fun i => tj_so (rl (4 * q + i)) (vr (4 * q + i))) s i ||| tj_so (rl (4 * q + i)) (vr (4 * q + i)) := if_pos ht
        rw [e2] at k
        exact k
      · have e2 : tj_vo (fun i => tj_so (rl (4 * q + i)) (vr (4 * q + i))) s (i + 1) = tj_vo (fun i => tj_so (rl (4 * q + i)) (vr (4 * q + i))) s i := if_neg (by rw [hf]; decide)
        rw [e2] at k
        exact k
theorem yy_vo {q s : Nat} (hq : q < 2) (hc : cn q ≤ 4) (hs : s < 2 ^ 31) (ha : tj_Ay rl vr) (h : post (nI (tj_vo (fun i => tj_so (rl (4 * q + i)) (vr (4 * q + i))) s (cn q)))) : wpY_variablesOf post (tj_T th, tj_A cn, tj_A rl, tj_A vr, tj_A ak, D, E) (nI q) (nI s) :=
  ⟨_, yy_vo_l hq hc hs ha h (cn q + 1) 0 (by omega) (by omega)⟩
theorem yy_all {q : Nat} (hq : q < 2) (hc : cn q ≤ 4) (h : post (nI (2 ^ cn q - 1))) : wpY_all post (tj_T th, tj_A cn, tj_A rl, tj_A vr, tj_A ak, D, E) (nI q) := by
  refine ⟨vp_in_nI hq (by decide), ?_⟩
  show post (((1 : Int32) <<< ((tj_A cn (nI q).toNatClampNeg) &&& 31)) - 1)
  rw [nI_clamp (by omega), tj_Ap, tj_shl (by omega), tj_s1 (Nat.two_pow_pos _)]
  exact h
theorem yy_isWhole {q s : Nat} (hq : q < 2) (hc : cn q ≤ 4) (hk : ak q < 32) (hs : s < 2 ^ 31) (ha : tj_Ay rl vr) (h1 : s ≠ 0 → tj_mi (ak q) (tj_vo (fun i => tj_so (rl (4 * q + i)) (vr (4 * q + i))) s (cn q)) = 0 → post 1) (h0 : ¬ (s ≠ 0 ∧ tj_mi (ak q) (tj_vo (fun i => tj_so (rl (4 * q + i)) (vr (4 * q + i))) s (cn q)) = 0) → post 0) : wpY_isWhole post (tj_T th, tj_A cn, tj_A rl, tj_A vr, tj_A ak, D, E) (nI q) (nI s) := by
  unfold wpY_isWhole
  refine yy_vo hq hc hs ha (pk_eq s 0 (fun e => h0 (fun y => y.1 e)) (fun e => ⟨vp_in_nI hq (by decide), ?_⟩))
  have l := tj_vo_lt (f := (fun i => tj_so (rl (4 * q + i)) (vr (4 * q + i)))) (s := s) (fun i => tj_so_lt _ _) (cn q)
  rw [nI_clamp (by omega), tj_Ap, tj_miI _ hk _ l, tj_eq_0 (Nat.lt_trans (tj_mi_lt hk) (by decide))]
  exact br_c (fun w => h1 e w) (fun w => h0 (fun y => w y.2))
theorem yy_whole {q : Nat} (hq : q < 2) (hc : cn q ≤ 4) (hk : ak q < 32) (ha : tj_Ay rl vr) (h1 : tj_wh cn ak rl vr q → post 1) (h0 : ¬ tj_wh cn ak rl vr q → post 0) : wpY_whole post (tj_T th, tj_A cn, tj_A rl, tj_A vr, tj_A ak, D, E) (nI q) := by
  obtain ⟨p1, p2, p3⟩ := tj_p1 hc
  unfold wpY_whole
  refine yy_isQ hq (br_f (by decide) (yy_all hq hc (yy_isWhole hq hc hk (by omega) ha (fun a b => ⟨rfl, h1 ⟨fun e => a (p3.mpr e), b⟩⟩) (fun n => ⟨rfl, h0 (fun y => n ⟨fun e => y.1 (p3.mp e), y.2⟩)⟩))))
theorem yy_given_l {code v : Nat} (hc : code < 2 ^ 31) (hv : v ≤ 4) (h : post (nI (tj_g code v))) : ∀ n j, v + j ≤ 4 → 4 - (v + j) < n → wY_given_5 post (tj_T th) (tj_A cn) (tj_A rl) (tj_A vr) (tj_A ak) D E n (nI (code / 5 ^ j)) (nI (v + j)) := by
  have bd : ∀ p, code / 5 ^ p < 2 ^ 31 := fun p => Nat.lt_of_le_of_lt (Nat.div_le_self _ _) hc
  intro n
  induction n with
  | zero => intro k _ h; omega
  | succ n ih =>
    intro j k1 k2
    refine pk_le 4 (v + j) (fun le => ⟨by decide, ?_⟩) (fun gt => ⟨by decide, nm_r (e' := nI (code / 5 ^ (j + 1))) ?_ (nm_r (nI_1 _) (ih (j + 1) (by omega) (by omega)))⟩)
    · have e : j = 4 - v := by omega
      subst e
      have e := pk_rem (d := 5) (bd (4 - v)) (by decide) (by decide)
      show post (nI (code / 5 ^ (4 - v)) - nI (code / 5 ^ (4 - v)) / nI 5 * nI 5)
      rw [e]
      exact h
    · rw [tj_dv_5 (bd j), Nat.div_div_eq_div_mul, ← Nat.pow_succ]
theorem yy_given {code v : Nat} (hc : code < 2 ^ 31) (hv : v ≤ 4) (h : post (nI (tj_g code v))) : wpY_given post (tj_T th, tj_A cn, tj_A rl, tj_A vr, tj_A ak, D, E) (nI code) (nI v) := by
  have k := yy_given_l (th := th) (cn := cn) (ak := ak) (rl := rl) (vr := vr) (D := D) (E := E) hc hv h 5 0 (by omega) (by omega)
  rw [Nat.pow_zero, Nat.div_one] at k
  exact ⟨5, k⟩
theorem yy_rep_l {p code : Nat} (hp : p < 8) (hr : rl p < 3) (hv : vr p < 2 ^ 31) (hc : code < 2 ^ 31) (h : post (nI (tj_row (rl p) (vr p) (tj_g code)))) : ∀ n c, c ≤ tj_w (rl p) → tj_w (rl p) - c < n → wY_replaced_5 post (nI p) (nI code) (tj_T th) (tj_A cn) (tj_A rl) (tj_A vr) (tj_A ak) D E n (nI (tj_rp (rl p) (vr p) (tj_g code) c)) (nI c) := by
  have hw : tj_w (rl p) ≤ 3 := by rcases tj_w_2 (rl p) with h | h <;> omega
  intro n
  induction n with
  | zero => intro k _ h; omega
  | succ n ih =>
    intro c k1 k2
    refine ⟨vp_in_nI hp (by decide), ?_⟩
    rw [nI_clamp (n := p) (by omega)]
    refine yy_cols hr (pk_le (tj_w (rl p)) c (fun le => ?_) (fun gt => ⟨vp_in_nI hp (by decide), vp_in_nI hp (by decide), yy_col hr hv gt (yy_given hc (by have := tj_c_lt (rl p) (vr p) c; omega) (nm_r (e' := nI (tj_rp (rl p) (vr p) (tj_g code) (c + 1))) ?_ (nm_r (nI_1 c) (ih (c + 1) (by omega) (by omega)))))⟩))
    · have e : c = tj_w (rl p) := by omega
      rw [e]
      exact h
    · rw [tj_ml_5, nI_add]
      rfl
theorem yy_rep {p code : Nat} (hp : p < 8) (hr : rl p < 3) (hv : vr p < 2 ^ 31) (hc : code < 2 ^ 31) (h : post (nI (tj_row (rl p) (vr p) (tj_g code)))) : wpY_replaced post (tj_T th, tj_A cn, tj_A rl, tj_A vr, tj_A ak, D, E) (nI p) (nI code) :=
  ⟨_, yy_rep_l hp hr hv hc h (tj_w (rl p) + 1) 0 (by omega) (by omega)⟩
theorem tj_LY_lt {r row : Nat} (hr : r < 3) (hw : row < tj_n r) : 125 * r + row < 375 := by
  rcases tj_on r with ⟨_, _, _, _⟩ | ⟨_, _, _, _⟩ <;> omega
theorem yy_choice_l {q code : Nat} (hq : q < 2) (hn : cn q ≤ 4) (hc : code < 2 ^ 31) (ha : tj_Ay rl vr) (h1 : tj_ch th rl vr (4 * q) (cn q) (tj_g code) → post 1) (h0 : ¬ tj_ch th rl vr (4 * q) (cn q) (tj_g code) → post 0) :
    ∀ n i, i ≤ cn q → cn q - i < n → (∀ j, j < i → th (125 * rl (4 * q + j) + tj_row (rl (4 * q + j)) (vr (4 * q + j)) (tj_g code)) = true) → wY_isChoice_4 post (nI q) (nI code) (tj_T th) (tj_A cn) (tj_A rl) (tj_A vr) (tj_A ak) D E n (nI (4 * q + i)) := by
  intro n
  induction n with
  | zero => intro k _ h; omega
  | succ n ih =>
    intro i k1 k2 hj
    refine ⟨vp_in_nI hq (by decide), ?_⟩
    rw [nI_clamp (n := q) (by omega), tj_Ap, tj_f4]
    refine pk_le (4 * q + cn q) (4 * q + i) (fun le => ?_) (fun gt => ?_)
    · have e : i = cn q := by omega
      subst e
      exact h1 hj
    · obtain ⟨a1, a2⟩ := tj_Ay_b ha (show 4 * q + i < 8 by omega)
      have rlt := tj_LY_lt a1 (tj_row_lt (r := rl (4 * q + i)) (vs := vr (4 * q + i)) (fun v _ => tj_g_lt code v))
      refine yy_rep (by omega) a1 (by omega) hc ⟨vp_in_nI (by omega) (by decide), ?_⟩
      rw [nI_clamp (n := 4 * q + i) (by omega), tj_Ap, tj_e125]
      refine ⟨vp_in_nI rlt (by decide), ?_⟩
      rw [nI_clamp (by omega)]
      refine br_c (fun e => h0 (fun y => ?_)) (fun e => nm_r (nI_1 _) (ih (i + 1) (by omega) (by omega) (fun j hj' => ?_)))
      · have := y i (by omega)
        rw [tj_T_f.mp e] at this
        exact absurd this (by decide)
      · by_cases e2 : j = i
        · subst e2; exact tj_T_n e
        · exact hj j (by omega)
theorem yy_choice {q code : Nat} (hq : q < 2) (hn : cn q ≤ 4) (hc : code < 2 ^ 31) (ha : tj_Ay rl vr) (h1 : tj_ch th rl vr (4 * q) (cn q) (tj_g code) → post 1) (h0 : ¬ tj_ch th rl vr (4 * q) (cn q) (tj_g code) → post 0) : wpY_isChoice post (tj_T th, tj_A cn, tj_A rl, tj_A vr, tj_A ak, D, E) (nI q) (nI code) :=
  nm_r (tj_ml_4 q) ⟨cn q + 1, yy_choice_l hq hn hc ha h1 h0 _ 0 (by omega) (by omega) (fun j hj => by omega)⟩
theorem yy_aof_l {q code : Nat} (hq : q < 2) (hk : ak q < 32) (hc : code < 2 ^ 31) (h : post (nI (tj_ao (ak q) (tj_g code) 5))) : ∀ n v, v ≤ 5 → 5 - v < n → wY_answerOf_5 post (nI q) (nI code) (tj_T th) (tj_A cn) (tj_A rl) (tj_A vr) (tj_A ak) D E n (nI (tj_ao (ak q) (tj_g code) v)) (nI v) := by
  intro n
  induction n with
  | zero => intro v _ h; omega
  | succ n ih =>
    intro v h1 h2
    rcases Nat.lt_or_ge v 5 with z | z
    · have k := ih (v + 1) (by omega) (by omega)
      refine br_f (nI_ge (b := 5) z (by decide)) ⟨vp_in_nI hq (by decide), ?_⟩
      rw [nI_clamp (n := q) (by omega), tj_Ap]
      refine yy_in (by omega) (by omega) (fun ht => br_f (by decide) (yy_given hc (by omega) (nm_r (e' := nI (tj_ao (ak q) (tj_g code) (v + 1))) ?_ (nm_r (nI_1 v) k)))) (fun hf => br_t rfl (nm_r (nI_1 v) ?_))
      · rw [tj_ml_5, nI_add]
        have e : tj_ao (ak q) (tj_g code) (v + 1) = 5 * tj_ao (ak q) (tj_g code) v + tj_g code v := if_pos ht
        rw [e]
      · have e : tj_ao (ak q) (tj_g code) (v + 1) = tj_ao (ak q) (tj_g code) v := if_neg (by rw [hf]; decide)
        rw [e] at k
        exact k
    · have e : v = 5 := by omega
      subst e
      exact br_t (by decide) h
theorem yy_aof {q code : Nat} (hq : q < 2) (hk : ak q < 32) (hc : code < 2 ^ 31) (h : post (nI (tj_ao (ak q) (tj_g code) 5))) : wpY_answerOf post (tj_T th, tj_A cn, tj_A rl, tj_A vr, tj_A ak, D, E) (nI q) (nI code) :=
  ⟨6, yy_aof_l hq hk hc h 6 0 (by omega) (by omega)⟩
end
end
section
/-! Y: all codes tried, scans -/
section
variable {post : SY → Prop} {th : Nat → Bool} {D E : Nat → Int32} {cn ak rl vr : Nat → Nat}
theorem yy_t81 {J : Int32 → (Nat → Int32) → (Nat → Int32) → (Nat → Int32) → (Nat → Int32) → (Nat → Int32) → (Nat → Int32) → (Nat → Int32) → Prop} {q code : Nat} {P : Nat → Prop} (hq : q < 2) (hn : cn q ≤ 4) (hc : code < 2 ^ 31) (ha : tj_Ay rl vr)
    (h : ∀ E', tj_B E' (fun k => P k ∨ ∃ j, j < cn q ∧ tj_LY (rl (4 * q + j)) (tj_row (rl (4 * q + j)) (vr (4 * q + j)) (tj_g code)) = k) 375 → J (nI (code + 1)) (tj_T th) (tj_A cn) (tj_A rl) (tj_A vr) (tj_A ak) D E') :
    ∀ n i E, i ≤ cn q → cn q - i < n → tj_B E (fun k => P k ∨ ∃ j, j < i ∧ tj_LY (rl (4 * q + j)) (tj_row (rl (4 * q + j)) (vr (4 * q + j)) (tj_g code)) = k) 375 → wY_tryAll_81 post J (nI q) (nI code) n (nI (4 * q + i)) (tj_T th) (tj_A cn) (tj_A rl) (tj_A vr) (tj_A ak) D E := by
  intro n
  induction n with
  | zero => intro i _ _ h; omega
  | succ n ih =>
    intro i E h1 h2 hE
    refine ⟨vp_in_nI hq (by decide), ?_⟩
    rw [nI_clamp (n := q) (by omega), tj_Ap, tj_f4]
    refine pk_le (4 * q + cn q) (4 * q + i) (fun le => ?_) (fun gt => ?_)
    · have e : i = cn q := by omega
      rw [e] at hE
      exact nm_r (nI_1 code) (h E hE)
    · obtain ⟨a1, a2⟩ := tj_Ay_b ha (show 4 * q + i < 8 by omega)
      have rlt := tj_LY_lt a1 (tj_row_lt (r := rl (4 * q + i)) (vs := vr (4 * q + i)) (fun v _ => tj_g_lt code v))
      refine yy_rep (by omega) a1 (by omega) hc ⟨vp_in_nI (by omega) (by decide), ?_⟩
      rw [nI_clamp (n := 4 * q + i) (by omega), tj_Ap, tj_e125]
      refine ⟨vp_in_nI rlt (by decide), nm_r (e' := upd E (tj_LY (rl (4 * q + i)) (tj_row (rl (4 * q + i)) (vr (4 * q + i)) (tj_g code))) 1) (by rw [nI_clamp (by omega), tj_vb1]; rfl) (nm_r (nI_1 _) (ih (i + 1) _ (by omega) (by omega) (tj_B_c (tj_B_u hE) (fun k _ => ?_))))⟩
      constructor
      · rintro ((p | ⟨j, hj, e⟩) | e)
        · exact Or.inl p
        · exact Or.inr ⟨j, by omega, e⟩
        · exact Or.inr ⟨i, by omega, e⟩
      · rintro (p | ⟨j, hj, e⟩)
        · exact Or.inl (Or.inl p)
        · by_cases y : j = i
          · subst y; exact Or.inr e
          · exact Or.inl (Or.inr ⟨j, by omega, e⟩)
theorem yy_t46 {q : Nat} (hq : q < 2) (hn : cn q ≤ 4) (hk : ak q < 32) (ha : tj_Ay rl vr) (h : ∀ D E, tj_B D (tj_PA th rl vr (4 * q) (cn q) (ak q) 3125) 3125 → tj_B E (tj_PM tj_LY th rl vr (4 * q) (cn q) 3125) 375 → post (tj_T th, tj_A cn, tj_A rl, tj_A vr, tj_A ak, D, E)) :
    ∀ n c D E, c ≤ 3125 → 3125 - c < n → tj_B D (tj_PA th rl vr (4 * q) (cn q) (ak q) c) 3125 → tj_B E (tj_PM tj_LY th rl vr (4 * q) (cn q) c) 375 → wY_tryAll_46 post (nI q) n (nI c) (tj_T th) (tj_A cn) (tj_A rl) (tj_A vr) (tj_A ak) D E := by
  intro n
  induction n with
  | zero => intro c _ _ _ h; omega
  | succ n ih =>
    intro c D E h1 h2 hD hE
    rcases Nat.lt_or_ge c 3125 with z | z
    · refine br_f (nI_ge (b := 3125) z (by decide)) (yy_choice hq hn (by omega) ha (fun hch => br_f (by decide) ?_) (fun hch => br_t rfl (nm_r (nI_1 c) (ih (c + 1) D E (by omega) (by omega) ?_ ?_))))
      · have ao := tj_ao_lt (a := ak q) (g := tj_g c) (fun v _ => tj_g_lt c v) 5 (Nat.le_refl 5)
        refine yy_aof hq hk (by omega) ⟨vp_in_nI ao (by decide), nm_r (e' := upd D (tj_ao (ak q) (tj_g c) 5) 1) (by rw [nI_clamp (Nat.lt_trans ao (by decide)), tj_vb1]) (nm_r (tj_ml_4 q) ⟨cn q + 1, ?_⟩)⟩
        refine yy_t81 (P := tj_PM tj_LY th rl vr (4 * q) (cn q) c) hq hn (by omega) ha (fun E' hE' => ih (c + 1) _ E' (by omega) (by omega) (tj_B_c (tj_B_u hD) (fun k _ => tj_PA_one hch)) (tj_B_c hE' (fun k _ => tj_PM_one hch))) _ 0 E (by omega) (by omega) (tj_B_c hE (fun k _ => ⟨Or.inl, fun y => y.elim id (fun ⟨j, hj, _⟩ => absurd hj (by omega))⟩))
      · refine tj_B_c hD (fun k _ => tj_PA_skip (by omega) (fun d d1 d2 => ?_))
        have e : d = c := by omega
        subst e
        exact hch
      · refine tj_B_c hE (fun k _ => tj_PM_skip (by omega) (fun d d1 d2 => ?_))
        have e : d = c := by omega
        subst e
        exact hch
    · have e : c = 3125 := by omega
      subst e
      exact br_t (by decide) (h D E hD hE)
theorem yy_t24 {q : Nat} (h : ∀ E', (∀ k, k < 375 → E' k = 0) → ∃ n, wY_tryAll_46 post (nI q) n 0 (tj_T th) (tj_A cn) (tj_A rl) (tj_A vr) (tj_A ak) D E') : ∀ n i E, i ≤ 375 → 375 - i < n → (∀ k, k < i → E k = 0) → wY_tryAll_24 post (nI q) n (nI i) (tj_T th) (tj_A cn) (tj_A rl) (tj_A vr) (tj_A ak) D E := by
  intro n
  induction n with
  | zero => intro i _ _ h; omega
  | succ n ih =>
    intro i E h1 h2 hM
    rcases Nat.lt_or_ge i 375 with z | z
    · refine br_f (nI_ge (b := 375) z (by decide)) ⟨vp_in_nI z (by decide), nm_r (e' := upd E i 0) (by rw [nI_clamp (by omega), tj_vb0]) (nm_r (nI_1 i) (ih (i + 1) _ (by omega) (by omega) (fun k hk => ?_)))⟩
      by_cases e : k = i
      · subst e; exact pk_us
      · rw [pk_un e]; exact hM k (by omega)
    · have e : i = 375 := by omega
      subst e
      exact br_t (by decide) (h E hM)
theorem yy_t2 {q : Nat} (h : ∀ D' E', (∀ k, k < 3125 → D' k = 0) → (∀ k, k < 375 → E' k = 0) → ∃ n, wY_tryAll_46 post (nI q) n 0 (tj_T th) (tj_A cn) (tj_A rl) (tj_A vr) (tj_A ak) D' E') : ∀ n i D, i ≤ 3125 → 3125 - i < n → (∀ k, k < i → D k = 0) → wY_tryAll_2 post (nI q) n (nI i) (tj_T th) (tj_A cn) (tj_A rl) (tj_A vr) (tj_A ak) D E := by
  intro n
  induction n with
  | zero => intro i _ _ h; omega
  | succ n ih =>
    intro i D h1 h2 hM
    rcases Nat.lt_or_ge i 3125 with z | z
    · refine br_f (nI_ge (b := 3125) z (by decide)) ⟨vp_in_nI z (by decide), nm_r (e' := upd D i 0) (by rw [nI_clamp (by omega), tj_vb0]) (nm_r (nI_1 i) (ih (i + 1) _ (by omega) (by omega) (fun k hk => ?_)))⟩
      by_cases e : k = i
      · subst e; exact pk_us
      · rw [pk_un e]; exact hM k (by omega)
    · have e : i = 3125 := by omega
      subst e
      exact br_t (by decide) ⟨376, yy_t24 (fun E' hE' => h D E' hM hE') 376 0 E (by omega) (by omega) (fun k hk => by omega)⟩
theorem yy_try {q : Nat} (hq : q < 2) (hn : cn q ≤ 4) (hk : ak q < 32) (ha : tj_Ay rl vr) (h : ∀ D E, tj_B D (tj_PA th rl vr (4 * q) (cn q) (ak q) 3125) 3125 → tj_B E (tj_PM tj_LY th rl vr (4 * q) (cn q) 3125) 375 → post (tj_T th, tj_A cn, tj_A rl, tj_A vr, tj_A ak, D, E)) : wpY_tryAll post (tj_T th, tj_A cn, tj_A rl, tj_A vr, tj_A ak, D, E) (nI q) :=
  ⟨3126, yy_t2 (fun D' E' hD hE => ⟨3126, yy_t46 hq hn hk ha h 3126 0 D' E' (by omega) (by omega) (tj_B_0 hD (fun k => tj_PA_0)) (tj_B_0 hE (fun k => tj_PM_0))⟩) 3126 0 D (by omega) (by omega) (fun k hk => by omega)⟩
end
section
variable {post : Int32 → SY → Prop} {th : Nat → Bool} {D E : Nat → Int32} {cn ak rl vr : Nat → Nat}
theorem yy_count_l (h : post (nI (tj_k (tj_m D) 0 3125)) (tj_T th, tj_A cn, tj_A rl, tj_A vr, tj_A ak, D, E)) : ∀ n a, a ≤ 3125 → 3125 - a < n → wY_count_30 post (tj_T th) (tj_A cn) (tj_A rl) (tj_A vr) (tj_A ak) D E n (nI (tj_k (tj_m D) 0 a)) (nI a) := by
  intro n
  induction n with
  | zero => intro a _ h; omega
  | succ n ih =>
    intro a k1 k2
    rcases Nat.lt_or_ge a 3125 with z | z
    · have k := ih (a + 1) (by omega) (by omega)
      refine br_f (nI_ge (b := 3125) z (by decide)) ⟨vp_in_nI z (by decide), ?_⟩
      rw [nI_clamp (by omega)]
      refine br_c (fun e => nm_r (nI_1 a) ?_) (fun e => nm_r (nI_1 _) (nm_r (nI_1 a) ?_))
      · rw [tj_k0_f (by unfold tj_m; rw [decide_eq_true_eq]; exact fun y => y e)] at k
        exact k
      · rw [tj_k0_t (by unfold tj_m; rw [decide_eq_true_eq]; exact e)] at k
        exact k
    · have e : a = 3125 := by omega
      subst e
      exact br_t (by decide) h
theorem yy_answer_l {x : Int32} : ∀ n a b, a ≤ 3125 → 3125 - a < n → post (tj_fa D x (3125 - a) a b) (tj_T th, tj_A cn, tj_A rl, tj_A vr, tj_A ak, D, E) → wY_answer_31 post x (tj_T th) (tj_A cn) (tj_A rl) (tj_A vr) (tj_A ak) D E n (nI b) (nI a) := by
  intro n
  induction n with
  | zero => intro a b _ h; omega
  | succ n ih =>
    intro a b k1 k2 h
    rcases Nat.lt_or_ge a 3125 with z | z
    · have e3 : 3125 - a = (3125 - (a + 1)) + 1 := by omega
      rw [e3, show tj_fa D x (3125 - (a + 1) + 1) a b = if D a = 0 then tj_fa D x (3125 - (a + 1)) (a + 1) b else if nI b = x then nI a else tj_fa D x (3125 - (a + 1)) (a + 1) (b + 1) from rfl] at h
      refine br_f (nI_ge (b := 3125) z (by decide)) ⟨vp_in_nI z (by decide), ?_⟩
      rw [nI_clamp (by omega)]
      refine br_c (fun e => nm_r (nI_1 a) (ih _ _ (by omega) (by omega) ?_)) (fun e => br_c (fun e2 => ?_) (fun e2 => nm_r (nI_1 b) (nm_r (nI_1 a) (ih _ _ (by omega) (by omega) ?_))))
      · rw [if_pos e] at h; exact h
      · rw [if_neg e, if_pos e2] at h; exact h
      · rw [if_neg e, if_neg e2] at h; exact h
    · have e : a = 3125 := by omega
      subst e
      exact br_t (by decide) h
theorem yy_often_l {x p : Nat} (hx : x < 5) (hp : p < 5) (h : post (nI (tj_k (fun a => tj_m D a && decide (a / 5 ^ p % 5 = x)) 0 3125)) (tj_T th, tj_A cn, tj_A rl, tj_A vr, tj_A ak, D, E)) : ∀ n a, a ≤ 3125 → 3125 - a < n → wY_often_102 post (nI x) (nI p) (tj_T th) (tj_A cn) (tj_A rl) (tj_A vr) (tj_A ak) D E n (nI (tj_k (fun a => tj_m D a && decide (a / 5 ^ p % 5 = x)) 0 a)) (nI a) := by
  intro n
  induction n with
  | zero => intro a _ h; omega
  | succ n ih =>
    intro a k1 k2
    rcases Nat.lt_or_ge a 3125 with z | z
    · have k := ih (a + 1) (by omega) (by omega)
      have d5 : a / 5 ^ p % 5 < 5 := Nat.mod_lt _ (by decide)
      have eg : tj_g a (4 - p) = a / 5 ^ p % 5 := by
        unfold tj_g
        rw [show 4 - (4 - p) = p by omega]
      refine br_f (nI_ge (b := 3125) z (by decide)) ⟨vp_in_nI z (by decide), ?_⟩
      rw [nI_clamp (by omega)]
      refine br_c (fun e => nm_r (nI_1 a) ?_) (fun e => ?_)
      · rw [tj_k0_f (by simp [tj_m, e])] at k
        exact k
      · rw [tj_4s (by omega)]
        refine yy_given (by omega) (by omega) ?_
        rw [eg]
        refine pk_eq (a / 5 ^ p % 5) x (fun e2 => nm_r (nI_1 _) (nm_r (nI_1 a) ?_)) (fun e2 => nm_r (nI_1 a) ?_)
        · rw [tj_k0_t (by simp [tj_m, e, e2])] at k
          exact k
        · rw [tj_k0_f (by simp [tj_m, e, e2])] at k
          exact k
    · have e : a = 3125 := by omega
      subst e
      exact br_t (by decide) h
theorem yy_often66 {q v x : Nat} (hq : q < 2) (hk : ak q < 32) (hv : v < 5) (hx : x < 5) (h : post (nI (tj_k (fun a => tj_m D a && decide (a / 5 ^ (tj_k (fun w => (ak q).testBit w) (v + 1) (4 - v)) % 5 = x)) 0 3125)) (tj_T th, tj_A cn, tj_A rl, tj_A vr, tj_A ak, D, E)) : ∀ n j, v + 1 + j ≤ 5 → 4 - v - j < n →
    wY_often_66 post (nI q) (nI x) (tj_T th) (tj_A cn) (tj_A rl) (tj_A vr) (tj_A ak) D E n (nI (tj_k (fun w => (ak q).testBit w) (v + 1) j)) (nI (v + 1 + j)) := by
  intro n
  induction n with
  | zero => intro j _ h; omega
  | succ n ih =>
    intro j h1 h2
    rcases Nat.lt_or_ge (v + 1 + j) 5 with z | z
    · have k := ih (j + 1) (by omega) (by omega)
      refine br_f (nI_ge (b := 5) z (by decide)) ⟨vp_in_nI hq (by decide), ?_⟩
      rw [nI_clamp (n := q) (by omega), tj_Ap]
      refine yy_in (by omega) (by omega) (fun ht => br_f (by decide) (nm_r (nI_1 _) (nm_r (nI_1 _) ?_))) (fun hf => br_t rfl (nm_r (nI_1 _) ?_))
      · rw [tj_ks_t ht] at k
        exact k
      · rw [tj_ks_f hf] at k
        exact k
    · have e : j = 4 - v := by omega
      subst e
      have e5 : v + 1 + (4 - v) = 5 := by omega
      have kl := tj_k_le (fun w => (ak q).testBit w) (v + 1) (4 - v)
      rw [e5]
      exact br_t (by decide) ⟨3126, yy_often_l hx (by omega) h 3126 0 (by omega) (by omega)⟩
theorem yy_idle_l (h : post (nI (tj_k (fun k => th k && !tj_m E k) 0 375)) (tj_T th, tj_A cn, tj_A rl, tj_A vr, tj_A ak, D, E)) : ∀ n a, a ≤ 375 → 375 - a < n → wY_idle_31 post (tj_T th) (tj_A cn) (tj_A rl) (tj_A vr) (tj_A ak) D E n (nI (tj_k (fun k => th k && !tj_m E k) 0 a)) (nI a) := by
  intro n
  induction n with
  | zero => intro a _ h; omega
  | succ n ih =>
    intro a k1 k2
    rcases Nat.lt_or_ge a 375 with z | z
    · have k := ih (a + 1) (by omega) (by omega)
      refine br_f (nI_ge (b := 375) z (by decide)) ⟨vp_in_nI z (by decide), ?_⟩
      rw [nI_clamp (by omega)]
      refine br_c (fun e => nm_r (nI_1 a) ?_) (fun e => ⟨vp_in_nI z (by decide), br_c (fun e2 => nm_r (nI_1 _) (nm_r (nI_1 a) ?_)) (fun e2 => nm_r (nI_1 a) ?_)⟩)
      · rw [tj_k0_f (by simp [tj_T_f.mp e])] at k
        exact k
      · rw [tj_k0_t (by simp [tj_T_n e, tj_m, e2])] at k
        exact k
      · rw [tj_k0_f (by simp [tj_T_n e, tj_m, e2])] at k
        exact k
    · have e : a = 375 := by omega
      subst e
      exact br_t (by decide) h
theorem yy_cut_l {q i : Nat} (hq : q < 2) (hc : cn q ≤ 4) (hi : i < cn q) (h : post (nI (cn q - 1)) (tj_T th, tj_A (tj_u cn q (cn q - 1)), tj_A (tj_cut rl (4 * q + i) (cn q - 1 - i)), tj_A (tj_cut vr (4 * q + i) (cn q - 1 - i)), tj_A ak, D, E)) :
    ∀ n j, j ≤ cn q - 1 - i → cn q - 1 - i - j < n → wY_cut_30 post (nI q) n (nI (4 * q + i + j)) (tj_T th) (tj_A cn) (tj_A (tj_cut rl (4 * q + i) j)) (tj_A (tj_cut vr (4 * q + i) j)) (tj_A ak) D E := by
  intro n
  induction n with
  | zero => intro j _ h; omega
  | succ n ih =>
    intro j h1 h2
    refine ⟨vp_in_nI hq (by decide), ?_⟩
    rw [nI_clamp (n := q) (by omega), tj_Ap, tj_f4, tj_s1 (by omega)]
    refine pk_le (4 * q + cn q - 1) (4 * q + i + j) (fun le => ?_) (fun gt => ?_)
    · have e : j = cn q - 1 - i := by omega
      subst e
      refine ⟨vp_in_nI hq (by decide), vp_in_nI hq (by decide), nm_r (e' := tj_A (tj_u cn q (cn q - 1))) (by rw [tj_s1 (by omega), tj_A_u]) ⟨vp_in_nI hq (by decide), ?_⟩⟩
      rw [tj_Ap, tj_u_s]
      exact h
    · have e : nI (4 * q + i + j) + 1 = nI (4 * q + i + j + 1) := nI_1 _
      refine ⟨pk_in (4 * q + i + j + 1) 8 (by omega) e, vp_in_nI (by omega) (by decide), nm_r (e' := tj_A (tj_cut rl (4 * q + i) (j + 1))) ?_ ⟨pk_in (4 * q + i + j + 1) 8 (by omega) e, vp_in_nI (by omega) (by decide), nm_r (e' := tj_A (tj_cut vr (4 * q + i) (j + 1))) ?_ (nm_r e (ih (j + 1) (by omega) (by omega)))⟩⟩
      · rw [e, nI_clamp (by omega), nI_clamp (by omega), tj_Ap, tj_A_u]
        rfl
      · rw [e, nI_clamp (by omega), nI_clamp (by omega), tj_Ap, tj_A_u]
        rfl
end
end
section
/-! Y: renamings, smallest, tree-like -/
section
variable {post : Int32 → Prop} {th : Nat → Bool} {D E : Nat → Int32} {cn ak rl vr : Nat → Nat}
def tj_Am (rl vr : Nat → Nat) (t n A r x : Nat) : Prop := ∃ j, j < n ∧ A.testBit j = true ∧ rl (4 * t + j) = r ∧ vr (4 * t + j) = x
theorem yy_among_l {t A p x : Nat} (ht : t < 2) (hn : cn t ≤ 4) (hA : A < 2 ^ 31) (hp : p < 8) (hx : x < 2 ^ 31) (ha : tj_Ay rl vr) (h1 : tj_Am rl vr t (cn t) A (rl p) x → post 1) (h0 : ¬ tj_Am rl vr t (cn t) A (rl p) x → post 0) :
    ∀ n i, i ≤ cn t → cn t - i < n → (∀ j, j < i → ¬ (A.testBit j = true ∧ rl (4 * t + j) = rl p ∧ vr (4 * t + j) = x)) → wY_isAmong_12 post (nI t) (nI A) (nI p) (nI x) (tj_T th) (tj_A cn) (tj_A rl) (tj_A vr) (tj_A ak) D E n (nI i) := by
  intro n
  induction n with
  | zero => intro i _ h; omega
  | succ n ih =>
    intro i k1 k2 hj
    refine ⟨vp_in_nI ht (by decide), ?_⟩
    rw [nI_clamp (n := t) (by omega)]
    refine pk_le (cn t) i (fun le => ?_) (fun gt => ?_)
    · have e : i = cn t := by omega
      subst e
      exact h0 (fun ⟨j, hjt, y⟩ => hj j hjt y)
    · obtain ⟨a1, a2⟩ := tj_Ay_b ha (show 4 * t + i < 8 by omega)
      obtain ⟨b1, b2⟩ := tj_Ay_b ha hp
      have nx : ¬ (A.testBit i = true ∧ rl (4 * t + i) = rl p ∧ vr (4 * t + i) = x) → wY_isAmong_12 post (nI t) (nI A) (nI p) (nI x) (tj_T th) (tj_A cn) (tj_A rl) (tj_A vr) (tj_A ak) D E n (nI (i + 1)) := by
        intro hne
        refine ih (i + 1) (by omega) (by omega) (fun j hj' => ?_)
        by_cases e : j = i
        · subst e; exact hne
        · exact hj j (by omega)
      refine yy_in hA (by omega) (fun hb => br_f (by decide) ?_) (fun hb => br_t rfl (nm_r (nI_1 i) (nx (fun y => by rw [hb] at y; exact absurd y.1 (by decide)))))
      rw [tj_f4, nI_clamp (n := 4 * t + i) (by omega), nI_clamp (n := p) (by omega)]
      refine ⟨vp_in_nI (by omega) (by decide), vp_in_nI hp (by decide), pk_eq (rl (4 * t + i)) (rl p) (fun e1 => ⟨vp_in_nI (by omega) (by decide), pk_eq (vr (4 * t + i)) x (fun e2 => h1 ⟨i, gt, hb, e1, e2⟩) (fun e2 => nm_r (nI_1 i) (nx (fun y => e2 y.2.2)))⟩) (fun e1 => nm_r (nI_1 i) (nx (fun y => e1 y.2.1)))⟩
theorem yy_among {t A p code : Nat} (ht : t < 2) (hn : cn t ≤ 4) (hA : A < 2 ^ 31) (hp : p < 8) (hc : code < 2 ^ 31) (ha : tj_Ay rl vr) (h1 : tj_Am rl vr t (cn t) A (rl p) (tj_row (rl p) (vr p) (tj_g code)) → post 1) (h0 : ¬ tj_Am rl vr t (cn t) A (rl p) (tj_row (rl p) (vr p) (tj_g code)) → post 0) : wpY_isAmong post (tj_T th, tj_A cn, tj_A rl, tj_A vr, tj_A ak, D, E) (nI t) (nI A) (nI p) (nI code) := by
  obtain ⟨b1, b2⟩ := tj_Ay_b ha hp
  have rlt := tj_LY_lt b1 (tj_row_lt (r := rl p) (vs := vr p) (fun v _ => tj_g_lt code v))
  unfold wpY_isAmong
  exact yy_rep hp b1 (by omega) hc ⟨cn t + 1, yy_among_l ht hn hA hp (by omega) ha h1 h0 _ 0 (by omega) (by omega) (fun j hj => by omega)⟩
theorem yy_cm63b {J : Int32 → Prop} {f c n : Nat} {x2 x3 x6 : Int32} (hf : f < 2) (h : J (nI (c + 1))) : wY_canMap_63 post J (nI f) x2 x3 (nI c) (tj_T th) (tj_A cn) (tj_A rl) (tj_A vr) (tj_A ak) D E (n + 1) 0 x6 :=
  ⟨vp_in_nI hf (by decide), br_c (fun _ => br_t rfl (nm_r (nI_1 c) h)) (fun _ => br_t rfl (br_t rfl (nm_r (nI_1 c) h)))⟩
theorem yy_cm63 {J : Int32 → Prop} {f t A c : Nat} (hf : f < 2) (ht : t < 2) (hcf : cn f ≤ 4) (hct : cn t ≤ 4) (hA : A < 2 ^ 31) (hc : c < 2 ^ 31) (ha : tj_Ay rl vr) (hx : tj_fix (ak f) (tj_g c)) (h1 : tj_Into rl vr (ak f) (tj_g c) (4 * f) (cn f) (4 * t) (cn t) A → post 1) (h0 : ¬ tj_Into rl vr (ak f) (tj_g c) (4 * f) (cn f) (4 * t) (cn t) A → J (nI (c + 1))) :
    ∀ n i, i ≤ cn f → cn f - i < n → (∀ j, j < i → tj_Am rl vr t (cn t) A (rl (4 * f + j)) (tj_row (rl (4 * f + j)) (vr (4 * f + j)) (tj_g c))) → wY_canMap_63 post J (nI f) (nI t) (nI A) (nI c) (tj_T th) (tj_A cn) (tj_A rl) (tj_A vr) (tj_A ak) D E n 1 (nI i) := by
  intro n
  induction n with
  | zero => intro i _ h; omega
  | succ n ih =>
    intro i k1 k2 hj
    refine ⟨vp_in_nI hf (by decide), ?_⟩
    rw [nI_clamp (n := f) (by omega)]
    refine pk_le (cn f) i (fun le => ?_) (fun gt => br_f (by decide) ?_)
    · have e : i = cn f := by omega
      subst e
      exact br_f (by decide) (h1 ⟨hx, hj⟩)
    · rw [tj_f4]
      refine yy_among ht hct hA (by omega) hc ha (fun y => nm_r (nI_1 i) (ih (i + 1) (by omega) (by omega) (fun j hj' => ?_))) (fun y => nm_r (nI_1 i) ?_)
      · by_cases e : j = i
        · subst e; exact y
        · exact hj j (by omega)
      · obtain ⟨m, rfl⟩ : ∃ m, n = m + 1 := ⟨n - 1, by omega⟩
        exact yy_cm63b hf (h0 (fun z => y (z.2 i gt)))
theorem yy_cm17b {J : Int32 → Prop} {f c : Nat} {x2 x3 : Int32} (hf : f < 2) (hk : ak f < 32) (hc : c < 2 ^ 31) (h : J (nI (c + 1))) : ∀ n v, v ≤ 5 → 5 - v < n → wY_canMap_17 post J (nI f) x2 x3 (nI c) (tj_T th) (tj_A cn) (tj_A rl) (tj_A vr) (tj_A ak) D E n 0 (nI v) := by
  intro n
  induction n with
  | zero => intro i _ h; omega
  | succ n ih =>
    intro v k1 k2
    rcases Nat.lt_or_ge v 5 with z | z
    · have k := ih (v + 1) (by omega) (by omega)
      refine br_f (nI_ge (b := 5) z (by decide)) ⟨vp_in_nI hf (by decide), ?_⟩
      rw [nI_clamp (n := f) (by omega), tj_Ap]
      exact yy_in (by omega) (by omega) (fun hb => br_f (by decide) (yy_given hc (by omega) (br_c (fun _ => nm_r (nI_1 v) k) (fun _ => nm_r (nI_1 v) k)))) (fun hb => br_t rfl (nm_r (nI_1 v) k))
    · have e : v = 5 := by omega
      subst e
      exact br_t (by decide) ⟨1, yy_cm63b hf h⟩
theorem yy_cm17 {J : Int32 → Prop} {f t A c : Nat} (hf : f < 2) (ht : t < 2) (hcf : cn f ≤ 4) (hct : cn t ≤ 4) (hk : ak f < 32) (hA : A < 2 ^ 31) (hc : c < 2 ^ 31) (ha : tj_Ay rl vr) (h1 : tj_Into rl vr (ak f) (tj_g c) (4 * f) (cn f) (4 * t) (cn t) A → post 1) (h0 : ¬ tj_Into rl vr (ak f) (tj_g c) (4 * f) (cn f) (4 * t) (cn t) A → J (nI (c + 1))) :
    ∀ n v, v ≤ 5 → 5 - v < n → (∀ w, w < v → (ak f).testBit w = true → tj_g c w = w) → wY_canMap_17 post J (nI f) (nI t) (nI A) (nI c) (tj_T th) (tj_A cn) (tj_A rl) (tj_A vr) (tj_A ak) D E n 1 (nI v) := by
  intro n
  induction n with
  | zero => intro i _ h; omega
  | succ n ih =>
    intro v k1 k2 hv
    rcases Nat.lt_or_ge v 5 with z | z
    · have nx : ((ak f).testBit v = true → tj_g c v = v) → wY_canMap_17 post J (nI f) (nI t) (nI A) (nI c) (tj_T th) (tj_A cn) (tj_A rl) (tj_A vr) (tj_A ak) D E n 1 (nI (v + 1)) := by
        intro q
        refine ih (v + 1) (by omega) (by omega) (fun w hw => ?_)
        by_cases e : w = v
        · subst e; exact q
        · exact hv w (by omega)
      have g5 := tj_g_lt c v
      refine br_f (nI_ge (b := 5) z (by decide)) ⟨vp_in_nI hf (by decide), ?_⟩
      rw [nI_clamp (n := f) (by omega), tj_Ap]
      exact yy_in (by omega) (by omega) (fun hb => br_f (by decide) (yy_given hc (by omega) (pk_eq (tj_g c v) v (fun e => nm_r (nI_1 v) (nx (fun _ => e))) (fun e => nm_r (nI_1 v) (yy_cm17b hf hk hc (h0 (fun y => e (y.1 v z hb))) n (v + 1) (by omega) (by omega)))))) (fun hb => br_t rfl (nm_r (nI_1 v) (nx (fun y => by rw [hb] at y; exact absurd y (by decide)))))
    · have e : v = 5 := by omega
      subst e
      exact br_t (by decide) ⟨cn f + 1, yy_cm63 hf ht hcf hct hA hc ha hv h1 h0 _ 0 (by omega) (by omega) (fun j hj => by omega)⟩
theorem yy_cm3 {f t A : Nat} (hf : f < 2) (ht : t < 2) (hcf : cn f ≤ 4) (hct : cn t ≤ 4) (hk : ak f < 32) (hA : A < 2 ^ 31) (ha : tj_Ay rl vr) (h1 : (∃ d, d < 3125 ∧ tj_Into rl vr (ak f) (tj_g d) (4 * f) (cn f) (4 * t) (cn t) A) → post 1) (h0 : ¬ (∃ d, d < 3125 ∧ tj_Into rl vr (ak f) (tj_g d) (4 * f) (cn f) (4 * t) (cn t) A) → post 0) :
    ∀ n c, c ≤ 3125 → 3125 - c < n → (∀ d, d < c → ¬ tj_Into rl vr (ak f) (tj_g d) (4 * f) (cn f) (4 * t) (cn t) A) → wY_canMap_3 post (nI f) (nI t) (nI A) (tj_T th) (tj_A cn) (tj_A rl) (tj_A vr) (tj_A ak) D E n (nI c) := by
  intro n
  induction n with
  | zero => intro i _ h; omega
  | succ n ih =>
    intro c k1 k2 hn
    rcases Nat.lt_or_ge c 3125 with z | z
    · refine br_f (nI_ge (b := 3125) z (by decide)) ⟨6, yy_cm17 hf ht hcf hct hk hA (by omega) ha (fun y => h1 ⟨c, z, y⟩) (fun y => ih (c + 1) (by omega) (by omega) (fun d hd => ?_)) 6 0 (by omega) (by omega) (fun w hw => by omega)⟩
      by_cases e : d = c
      · subst e; exact y
      · exact hn d (by omega)
    · have e : c = 3125 := by omega
      subst e
      exact br_t (by decide) (h0 (fun ⟨d, hd, y⟩ => hn d hd y))
theorem yy_cm {f t A : Nat} (hf : f < 2) (ht : t < 2) (hcf : cn f ≤ 4) (hct : cn t ≤ 4) (hk : ak f < 32) (hA : A < 2 ^ 31) (ha : tj_Ay rl vr) (h1 : (∃ d, d < 3125 ∧ tj_Into rl vr (ak f) (tj_g d) (4 * f) (cn f) (4 * t) (cn t) A) → post 1) (h0 : ¬ (∃ d, d < 3125 ∧ tj_Into rl vr (ak f) (tj_g d) (4 * f) (cn f) (4 * t) (cn t) A) → post 0) : wpY_canMap post (tj_T th, tj_A cn, tj_A rl, tj_A vr, tj_A ak, D, E) (nI f) (nI t) (nI A) :=
  ⟨3126, yy_cm3 hf ht hcf hct hk hA ha h1 h0 3126 0 (by omega) (by omega) (fun d hd => by omega)⟩
theorem yy_size_l {s : Nat} (hs : s < 16) (h : post (nI (tj_s s))) : ∀ n i, i ≤ 5 → 5 - i < n → wY_sizeOf_4 post (nI s) (tj_T th) (tj_A cn) (tj_A rl) (tj_A vr) (tj_A ak) D E n (nI (tj_zs s i)) (nI i) := by
  intro n
  induction n with
  | zero => intro i _ h; omega
  | succ n ih =>
    intro i k1 k2
    rcases Nat.lt_or_ge i 5 with z | z
    · have k := ih (i + 1) (by omega) (by omega)
      refine br_f (nI_ge (b := 5) z (by decide)) (yy_in (by omega) (by omega) (fun hb => br_f (by decide) (nm_r (nI_1 _) (nm_r (nI_1 i) ?_))) (fun hb => br_t rfl (nm_r (nI_1 i) ?_)))
      · rw [tj_zs_t hb] at k
        exact k
      · rw [tj_zs_f hb] at k
        exact k
    · have e : i = 5 := by omega
      subst e
      rw [tj_zs_5 hs]
      exact br_t (by decide) h
theorem yy_size {s : Nat} (hs : s < 16) (h : post (nI (tj_s s))) : wpY_sizeOf post (tj_T th, tj_A cn, tj_A rl, tj_A vr, tj_A ak, D, E) (nI s) :=
  ⟨6, yy_size_l hs h 6 0 (by omega) (by omega)⟩
theorem yy_small_l {q : Nat} (hq : q < 2) (hc : cn q ≤ 4) (hk : ak q < 32) (ha : tj_Ay rl vr) (h : ∀ m, tj_Le (tj_SZ rl vr (ak q) (4 * q) (cn q) (2 ^ cn q)) (cn q) m → post (nI m)) :
    ∀ n A m, A ≤ 2 ^ cn q → 2 ^ cn q - A < n → tj_Le (tj_SZ rl vr (ak q) (4 * q) (cn q) A) (cn q) m → wY_smallest_30 post (nI q) (tj_T th) (tj_A cn) (tj_A rl) (tj_A vr) (tj_A ak) D E n (nI m) (nI A) := by
  obtain ⟨p1, p2, p3⟩ := tj_p1 hc
  intro n
  induction n with
  | zero => intro A m _ h; omega
  | succ n ih =>
    intro A m k1 k2 hm
    have m4 := hm.1
    unfold wY_smallest_30
    refine yy_all hq hc (pk_lt (2 ^ cn q - 1) A (fun lt => ?_) (fun ge => ?_))
    · have e : A = 2 ^ cn q := by omega
      rw [e] at hm
      exact h m hm
    · have A16 : A < 16 := by omega
      have s4 := tj_s_le A A16
      have nx : (tj_ok rl vr (ak q) (4 * q) (cn q) A → m ≤ tj_s A) → wY_smallest_30 post (nI q) (tj_T th) (tj_A cn) (tj_A rl) (tj_A vr) (tj_A ak) D E n (nI m) (nI (A + 1)) := fun z => ih (A + 1) m (by omega) (by omega) (tj_SZ_up hm z)
      have vl := tj_vo_lt (f := (fun i => tj_so (rl (4 * q + i)) (vr (4 * q + i)))) (s := A) (fun i => tj_so_lt _ _) (cn q)
      refine yy_size A16 (pk_le m (tj_s A) (fun le => nm_r (nI_1 A) (nx (fun _ => le))) (fun gt => yy_isWhole hq hc hk (by omega) ha (fun w1 w2 => br_f (by decide) (yy_cm hq hq hc hc hk (by omega) ha (fun y => br_f (by decide) (yy_size A16 (nm_r (nI_1 A) (ih (A + 1) _ (by omega) (by omega) (tj_SZ_dn hm ⟨w1, (tj_mi0 _ hk _ vl).mp w2, y⟩ gt))))) (fun y => br_t rfl (nm_r (nI_1 A) (nx (fun o => absurd o.2.2 y)))))) (fun w => br_t rfl (nm_r (nI_1 A) (nx (fun o => absurd ⟨o.1, (tj_mi0 _ hk _ vl).mpr o.2.1⟩ w))))))
def tj_hg (rl vr : Nat → Nat) (q n s i j : Nat) : Prop := tj_mi (tj_so (rl (4 * q + i)) (vr (4 * q + i))) (tj_so (rl (4 * q + j)) (vr (4 * q + j))) &&& tj_vo (fun i => tj_so (rl (4 * q + i)) (vr (4 * q + i))) (tj_mi s (2 ^ i)) n = 0
theorem yy_hang {q s i j : Nat} (hq : q < 2) (hc : cn q ≤ 4) (hs : s < 16) (hi : i < 4) (hj : j < 4) (ha : tj_Ay rl vr) (h1 : tj_hg rl vr q (cn q) s i j → post 1) (h0 : ¬ tj_hg rl vr q (cn q) s i j → post 0) : wpY_hangsOn post (tj_T th, tj_A cn, tj_A rl, tj_A vr, tj_A ak, D, E) (nI q) (nI s) (nI i) (nI j) := by
  obtain ⟨a1, a2⟩ := tj_Ay_b ha (show 4 * q + i < 8 by omega)
  obtain ⟨b1, b2⟩ := tj_Ay_b ha (show 4 * q + j < 8 by omega)
  have ml : tj_mi s (2 ^ i) < 16 := tj_mi_lt hs
  unfold wpY_hangsOn
  dsimp only
  rw [tj_f4, tj_f4]
  refine yy_set (by omega) a1 (by omega) (yy_set (by omega) b1 (by omega) (nm_r (tj_miI _ (tj_so_lt _ _) _ (tj_so_lt _ _)) ?_))
  rw [tj_shl (by omega), tj_miI s (by omega) _ (tj_2p i hi)]
  refine yy_vo hq hc (by omega) ha ?_
  rw [nx_and]
  exact pk_eq _ 0 h1 h0 rfl rfl (Nat.lt_trans (tj_and_lt (tj_mi_lt (tj_so_lt _ _))) (by decide)) (by decide)
def tj_Q (rl vr : Nat → Nat) (q n s ij : Nat) : Prop := ij / 4 ≠ ij % 4 ∧ s.testBit (ij / 4) = true ∧ s.testBit (ij % 4) = true ∧ tj_hg rl vr q n s (ij / 4) (ij % 4)
theorem yy_leaf_l {q s : Nat} (hq : q < 2) (hc : cn q ≤ 4) (hs : s < 16) (ha : tj_Ay rl vr) (h1 : ∀ ij, ij < 16 → tj_Q rl vr q (cn q) s ij → (∀ x, x < ij → ¬ tj_Q rl vr q (cn q) s x) → post (nI (ij / 4))) (h0 : (∀ ij, ij < 16 → ¬ tj_Q rl vr q (cn q) s ij) → post (-1)) :
    ∀ n x, x ≤ 16 → 16 - x < n → (∀ y, y < x → ¬ tj_Q rl vr q (cn q) s y) → wY_leaf_2 post (nI q) (nI s) (tj_T th) (tj_A cn) (tj_A rl) (tj_A vr) (tj_A ak) D E n (nI x) := by
  intro n
  induction n with
  | zero => intro i _ h; omega
  | succ n ih =>
    intro x k1 k2 hn
    rcases Nat.lt_or_ge x 16 with z | z
    · have nx : ¬ tj_Q rl vr q (cn q) s x → wY_leaf_2 post (nI q) (nI s) (tj_T th) (tj_A cn) (tj_A rl) (tj_A vr) (tj_A ak) D E n (nI (x + 1)) := by
        intro hne
        refine ih (x + 1) (by omega) (by omega) (fun j hj => ?_)
        by_cases e : j = x
        · subst e; exact hne
        · exact hn j (by omega)
      have e4 : nI x - nI x / 4 * 4 = nI (x % 4) := pk_rem (d := 4) (by omega) (by decide) (by decide)
      refine br_f (nI_ge (b := 16) z (by decide)) ⟨by decide, nm_r (tj_dv_4 (by omega)) ⟨by decide, nm_r e4 (pk_eq (x / 4) (x % 4) (fun e => nm_r (nI_1 x) (nx (fun y => y.1 e))) (fun e => ?_))⟩⟩
      refine yy_in (by omega) (by omega) (fun b1 => br_f (by decide) (yy_in (by omega) (by omega) (fun b2 => br_f (by decide) (yy_hang hq hc hs (by omega) (by omega) ha (fun g => br_f (by decide) (h1 x z ⟨e, b1, b2, g⟩ hn)) (fun g => br_t rfl (nm_r (nI_1 x) (nx (fun y => g y.2.2.2)))))) (fun b2 => br_t rfl (nm_r (nI_1 x) (nx (fun y => by have w := y.2.2.1; rw [b2] at w; exact absurd w (by decide))))))) (fun b1 => br_t rfl (nm_r (nI_1 x) (nx (fun y => by have w := y.2.1; rw [b1] at w; exact absurd w (by decide)))))
    · have e : x = 16 := by omega
      subst e
      exact br_t (by decide) (h0 hn)
theorem yy_leaf {q s : Nat} (hq : q < 2) (hc : cn q ≤ 4) (hs : s < 16) (ha : tj_Ay rl vr) (h1 : ∀ ij, ij < 16 → tj_Q rl vr q (cn q) s ij → (∀ x, x < ij → ¬ tj_Q rl vr q (cn q) s x) → post (nI (ij / 4))) (h0 : (∀ ij, ij < 16 → ¬ tj_Q rl vr q (cn q) s ij) → post (-1)) : wpY_leaf post (tj_T th, tj_A cn, tj_A rl, tj_A vr, tj_A ak, D, E) (nI q) (nI s) :=
  ⟨17, yy_leaf_l hq hc hs ha h1 h0 17 0 (by omega) (by omega) (fun y hy => by omega)⟩
/-- Y's pairs are X's hanging atoms -/
theorem tj_Q_H {q n s : Nat} (hn : n ≤ 4) (hs : s < 2 ^ n) {i j : Nat} (hi : i < 4) (hj : j < 4) (hb : s.testBit i = true) : tj_Q rl vr q n s (4 * i + j) ↔ ((tj_mi s (2 ^ i)).testBit j = true ∧ tj_mi (tj_so (rl (4 * q + i)) (vr (4 * q + i)) &&& tj_vo (fun i => tj_so (rl (4 * q + i)) (vr (4 * q + i))) (tj_mi s (2 ^ i)) 4) (tj_so (rl (4 * q + j)) (vr (4 * q + j))) = 0) := by
  have s16 : s < 16 := Nat.lt_of_lt_of_le hs (tj_p1 hn).2.1
  have e1 : (4 * i + j) / 4 = i := by omega
  have e2 : (4 * i + j) % 4 = j := by omega
  unfold tj_Q tj_hg
  rw [e1, e2, tj_mi_b s s16 i hi j hj, tj_mi_sw, tj_vo_4 (tj_mi_lt hs) hn]
  exact ⟨fun ⟨a, _, c, d⟩ => ⟨⟨c, fun e => a e.symm⟩, d⟩, fun ⟨⟨c, a⟩, d⟩ => ⟨fun e => a e.symm, hb, c, d⟩⟩
theorem tj_H_Q {q n s : Nat} (hn : n ≤ 4) (hs : s < 2 ^ n) {i : Nat} (hi : i < 4) (hb : s.testBit i = true) : tj_H rl vr q s i ↔ ∃ j, j < 4 ∧ tj_Q rl vr q n s (4 * i + j) :=
  ⟨fun ⟨j, hj, y⟩ => ⟨j, hj, (tj_Q_H hn hs hi hj hb).mpr y⟩, fun ⟨j, hj, y⟩ => ⟨j, hj, (tj_Q_H hn hs hi hj hb).mp y⟩⟩
theorem yy_tree_l {q : Nat} (hq : q < 2) (hc : cn q ≤ 4) (ha : tj_Ay rl vr) : ∀ n k s, k ≤ 4 → 4 - k < n → s < 2 ^ cn q → (∀ e, tj_chn (tj_SY (tj_H rl vr q)) (4 - k) s e → (tj_s e ≤ 1 → post 1) ∧ (¬ tj_s e ≤ 1 → post 0)) → wY_treeLike_18 post (nI q) (tj_T th) (tj_A cn) (tj_A rl) (tj_A vr) (tj_A ak) D E n (nI s) (nI k) := by
  intro n
  induction n with
  | zero => intro k s _ h; omega
  | succ n ih =>
    intro k s k1 k2 hs h
    have s16 : s < 16 := Nat.lt_of_lt_of_le hs (tj_p1 hc).2.1
    rcases Nat.lt_or_ge k 4 with z | z
    · have nx : ∀ t, t < 2 ^ cn q → tj_SY (tj_H rl vr q) s t → wY_treeLike_18 post (nI q) (tj_T th) (tj_A cn) (tj_A rl) (tj_A vr) (tj_A ak) D E n (nI t) (nI (k + 1)) := by
        intro t ht hst
        refine ih (k + 1) t (by omega) (by omega) ht (fun e he => h e ?_)
        rw [show 4 - k = 4 - (k + 1) + 1 by omega]
        exact ⟨t, hst, he⟩
      refine br_f (nI_ge (b := 4) z (by decide)) (yy_leaf hq hc s16 ha (fun ij hij hQ hl => br_f (nI_pos (by omega)) (nm_r (e' := nI (tj_mi s (2 ^ (ij / 4)))) ?_ (nm_r (nI_1 k) (nx _ (tj_mi_lt hs) ?_)))) (fun no => br_t (by decide) (nm_r (nI_1 k) (nx s hs ?_))))
      · rw [tj_shl (by omega), tj_miI s (by omega) _ (tj_2p _ (by omega))]
      · have e : 4 * (ij / 4) + ij % 4 = ij := by omega
        refine Or.inl ⟨ij / 4, by omega, hQ.2.1, (tj_H_Q hc hs (by omega) hQ.2.1).mpr ⟨ij % 4, by omega, by rw [e]; exact hQ⟩, fun j hj bj hH => ?_, rfl⟩
        obtain ⟨y, hy, hyQ⟩ := (tj_H_Q hc hs (by omega) bj).mp hH
        exact hl _ (by omega) hyQ
      · refine Or.inr ⟨fun i hi bi hH => ?_, rfl⟩
        obtain ⟨y, hy, hyQ⟩ := (tj_H_Q hc hs hi bi).mp hH
        exact no _ (by omega) hyQ
    · have e : k = 4 := by omega
      subst e
      obtain ⟨p1, p0⟩ := h s rfl
      have s4 := tj_s_le s s16
      exact br_t (by decide) (yy_size s16 (pk_lt 1 (tj_s s) (fun lt => p0 (by omega)) (fun ge => p1 ge)))
end
end
section
/-! the relation; the calls that change what is kept -/
theorem tj_q156 (r : Nat) : nI r * 156 = nI (156 * r) := by rw [tj_mr_156, Nat.mul_comm]
theorem tj_nle {a : Nat} {x : Int32} (ha : a + 1 < 2 ^ 31) (h : nI (a + 1) ≤ x) : ¬ x ≤ nI a := Int32.not_le.mpr (tj_lt_le ha h)
theorem tj_At_y {rl vr : Nat → Nat} {W : Nat → Int32} (h : tj_At rl vr W) : tj_Ay rl vr := fun p hp => ⟨(h p hp).1, (h p hp).2.1⟩
/-- both sides keep th, cn, ak, rl, vr; marks and what is given are free -/
def i_Rel (k : Nat) (u : SX) (v : SY) : Prop := ∃ (th : Nat → Bool) (cn ak rl vr : Nat → Nat) (lv : Nat) (B W G A M D E : Nat → Int32), u = (nI lv, B, tj_A cn, tj_A ak, tj_A rl, tj_A vr, W, G, A, M) ∧ v = (tj_T th, tj_A cn, tj_A rl, tj_A vr, tj_A ak, D, E) ∧ tj_I th cn ak rl vr lv B W
theorem tj_rel {k lv : Nat} {th : Nat → Bool} {cn ak rl vr : Nat → Nat} {B W G A M D E : Nat → Int32} (h : tj_I th cn ak rl vr lv B W) : i_Rel k (nI lv, B, tj_A cn, tj_A ak, tj_A rl, tj_A vr, W, G, A, M) (tj_T th, tj_A cn, tj_A rl, tj_A vr, tj_A ak, D, E) :=
  ⟨th, cn, ak, rl, vr, lv, B, W, G, A, M, D, E, rfl, rfl, h⟩
theorem i_up {k : Nat} {u : SX} {v : SY} (h : i_Rel k u v) : i_Rel (k + 4) u v := h
theorem i_vc0 : wpX_init (fun u => wpY_init (fun v => i_Rel 0 u v)) :=
  ⟨fun _ => false, fun _ => 0, fun _ => 0, fun _ => 0, fun _ => 0, 2, fun _ => 0, fun _ => 0, fun _ => 0, fun _ => 0, fun _ => 0, fun _ => 0, fun _ => 0, rfl, rfl, tj_I_0⟩
theorem i_vc_rows {k : Nat} {u : SX} {v : SY} (I : i_Rel k u v) (hk : k + 4 ≤ 2048) (v1 : Int32) : wpX_rows (fun r => wpY_rows (fun r' => r' = r ∧ i_Rel (k + 4) u v) v v1) u v1 := by
  obtain ⟨th, cn, ak, rl, vr, lv, B, W, G, A, M, D, E, rfl, rfl, hI⟩ := I
  by_cases hr : ∃ r, r < 3 ∧ v1 = nI r
  · obtain ⟨r, hr, rfl⟩ := hr
    unfold wpX_rows
    refine xx_isR hr (br_f (by decide) ⟨pk_in (156 * r) 468 (by omega) (tj_q156 r), ?_⟩)
    rw [tj_q156, nI_clamp (by omega), tj_Bl_root hI.1 hr]
    exact yy_rows hr ⟨rfl, tj_rel hI⟩
  · unfold wpX_rows
    refine xx_nR (fun j hj e => hr ⟨j, hj, e⟩) (br_t rfl ?_)
    rcases pk_ix v1 (n := 3) (by decide) with z | z | ⟨j, hj, e⟩
    · exact br_t z ⟨rfl, tj_rel hI⟩
    · exact br_c (fun _ => ⟨rfl, tj_rel hI⟩) (fun _ => br_f (tj_nle (a := 2) (by decide) z) ⟨rfl, tj_rel hI⟩)
    · exact absurd ⟨j, hj, e⟩ hr
theorem i_vc_level {k : Nat} {u : SX} {v : SY} (I : i_Rel k u v) (hk : k + 4 ≤ 2048) (v1 : Int32) : wpX_level (fun r u' => wpY_level (fun r' => r' = r ∧ i_Rel (k + 4) u' v) v v1) u v1 := by
  obtain ⟨th, cn, ak, rl, vr, lv, B, W, G, A, M, D, E, rfl, rfl, hI⟩ := I
  rcases pk_ix v1 (n := 3) (by decide) with z | z | ⟨j, hj, e⟩
  · exact br_t z (br_t z ⟨rfl, tj_rel hI⟩)
  · exact br_c (fun y => br_t y ⟨rfl, tj_rel hI⟩) (fun y => br_f (tj_nle (a := 2) (by decide) z) (br_f y (br_t (tj_lt_le (a := 2) (by decide) z) ⟨rfl, tj_rel hI⟩)))
  · subst e
    have hI' : tj_I th cn ak rl vr j B W := ⟨hI.1, hI.2.1, hI.2.2.1, hI.2.2.2.1, hI.2.2.2.2.1, hj⟩
    exact br_f (nI_pos (by omega)) (br_t (nI_le (b := 2) (by omega) (by decide)) (br_f (nI_pos (by omega)) (br_f (nI_nlt (a := 2) (by omega) (by decide)) ⟨rfl, tj_rel hI'⟩)))
theorem i_vc_ask {k : Nat} {u : SX} {v : SY} (I : i_Rel k u v) (hk : k + 4 ≤ 2048) (v1 : Int32) (v2 : Int32) : wpX_ask (fun r u' => wpY_ask (fun r' v' => r' = r ∧ i_Rel (k + 4) u' v') v v1 v2) u v1 v2 := by
  obtain ⟨th, cn, ak, rl, vr, lv, B, W, G, A, M, D, E, rfl, rfl, hI⟩ := I
  unfold wpX_ask
  by_cases hq : ∃ q, q < 2 ∧ v1 = nI q
  · obtain ⟨q, hq, rfl⟩ := hq
    refine xx_isQ hq (br_f (by decide) ?_)
    rcases pk_ix v2 (n := 32) (by decide) with z | z | ⟨s, hs, e⟩
    · refine br_t z ?_
      unfold wpY_ask
      exact yy_isQ hq (br_f (by decide) (br_t z ⟨rfl, tj_rel hI⟩))
    · refine br_c (fun y => ?_) (fun y => br_f (tj_nle (a := 31) (by decide) z) ?_)
      · unfold wpY_ask
        exact yy_isQ hq (br_f (by decide) (br_t y ⟨rfl, tj_rel hI⟩))
      · unfold wpY_ask
        exact yy_isQ hq (br_f (by decide) (br_f y (br_f (tj_nle (a := 31) (by decide) z) ⟨rfl, tj_rel hI⟩)))
    · subst e
      have eu : upd (tj_A ak) (nI q).toNatClampNeg (nI s) = tj_A (tj_u ak q s) := by rw [nI_clamp (by omega), tj_A_u]
      refine br_f (nI_pos (by omega)) (br_t (nI_le (b := 31) (by omega) (by decide)) ⟨vp_in_nI hq (by decide), nm_r eu ?_⟩)
      unfold wpY_ask
      refine yy_isQ hq (br_f (by decide) (br_f (nI_pos (by omega)) (br_t (nI_le (b := 31) (by omega) (by decide)) ⟨vp_in_nI hq (by decide), nm_r eu ⟨rfl, tj_rel ⟨hI.1, hI.2.1, hI.2.2.1, fun p hp => ?_, hI.2.2.2.2⟩⟩⟩)))
      by_cases e : p = q
      · subst e; rw [tj_u_s]; exact hs
      · rw [tj_u_n e]; exact hI.2.2.2.1 p hp
  · refine xx_nQ (fun j hj e => hq ⟨j, hj, e⟩) (br_t rfl ?_)
    unfold wpY_ask
    exact yy_nQ (fun j hj e => hq ⟨j, hj, e⟩) (br_t rfl ⟨rfl, tj_rel hI⟩)
theorem i_vc_atom {k : Nat} {u : SX} {v : SY} (I : i_Rel k u v) (hk : k + 4 ≤ 2048) (v1 : Int32) (v2 : Int32) (v3 : Int32) : wpX_atom (fun r u' => wpY_atom (fun r' v' => r' = r ∧ i_Rel (k + 4) u' v') v v1 v2 v3) u v1 v2 v3 := by
  obtain ⟨th, cn, ak, rl, vr, lv, B, W, G, A, M, D, E, rfl, rfl, hI⟩ := I
  unfold wpX_atom
  by_cases hq : ∃ q, q < 2 ∧ v1 = nI q
  · obtain ⟨q, hq, rfl⟩ := hq
    refine xx_isQ hq (br_f (by decide) ?_)
    by_cases hr : ∃ r vs, r < 3 ∧ vs < tj_n r ∧ v2 = nI r ∧ v3 = nI vs
    · obtain ⟨r, vs, hr, hv, rfl, rfl⟩ := hr
      have c4 := hI.2.2.1 q hq
      refine xx_isRow hr hv (br_f (by decide) ⟨vp_in_nI hq (by decide), ?_⟩)
      rw [nI_clamp (n := q) (by omega), tj_Ap]
      refine pk_lt (cn q) 4 (fun lt => ⟨vp_in_nI hq (by decide), ?_⟩) (fun ge => ?_)
      · rw [tj_e4]
        refine xx_put (by omega) hr hv hI.2.2.2.2.1 (fun W' ha' => ⟨vp_in_nI hq (by decide), vp_in_nI hq (by decide), nm_r (e' := tj_A (tj_u cn q (cn q + 1))) (by rw [tj_Ap, nI_1, tj_A_u]) ⟨vp_in_nI hq (by decide), ?_⟩⟩)
        rw [tj_Ap, tj_u_s]
        unfold wpY_atom
        refine yy_isQ hq (br_f (by decide) (yy_isRow hr hv (br_f (by decide) ⟨vp_in_nI hq (by decide), ?_⟩)))
        rw [nI_clamp (n := q) (by omega), tj_Ap]
        have e4 := tj_f4 q (cn q)
        refine pk_eq (cn q) 4 (fun e => absurd e (by omega)) (fun e => ⟨vp_in_nI hq (by decide), pk_in (4 * q + cn q) 8 (by omega) e4, nm_r (e' := tj_A (tj_u rl (4 * q + cn q) r)) (by rw [e4, nI_clamp (by omega), tj_A_u]) ⟨vp_in_nI hq (by decide), pk_in (4 * q + cn q) 8 (by omega) e4, nm_r (e' := tj_A (tj_u vr (4 * q + cn q) vs)) (by rw [e4, nI_clamp (by omega), tj_A_u]) ⟨vp_in_nI hq (by decide), vp_in_nI hq (by decide), nm_r (e' := tj_A (tj_u cn q (cn q + 1))) (by rw [nI_1, tj_A_u]) ⟨vp_in_nI hq (by decide), ?_, tj_rel ⟨hI.1, hI.2.1, fun p hp => ?_, hI.2.2.2.1, ha', hI.2.2.2.2.2⟩⟩⟩⟩⟩)
        · rw [tj_Ap, tj_u_s]
        · by_cases e : p = q
          · subst e; rw [tj_u_s]; omega
          · rw [tj_u_n e]; exact hI.2.2.1 p hp
      · unfold wpY_atom
        refine yy_isQ hq (br_f (by decide) (yy_isRow hr hv (br_f (by decide) ⟨vp_in_nI hq (by decide), ?_⟩)))
        rw [nI_clamp (n := q) (by omega), tj_Ap]
        exact pk_eq (cn q) 4 (fun e => ⟨rfl, tj_rel hI⟩) (fun e => absurd (show cn q = 4 by omega) e)
    · have hn : ∀ a b, a < 3 → b < tj_n a → v2 = nI a → v3 ≠ nI b := fun a b ha hb e1 e2 => hr ⟨a, b, ha, hb, e1, e2⟩
      refine xx_nRow hn (br_t rfl ?_)
      unfold wpY_atom
      exact yy_isQ hq (br_f (by decide) (yy_nRow hn (br_t rfl ⟨rfl, tj_rel hI⟩)))
  · refine xx_nQ (fun j hj e => hq ⟨j, hj, e⟩) (br_t rfl ?_)
    unfold wpY_atom
    exact yy_nQ (fun j hj e => hq ⟨j, hj, e⟩) (br_t rfl ⟨rfl, tj_rel hI⟩)
theorem i_vc_cut {k : Nat} {u : SX} {v : SY} (I : i_Rel k u v) (hk : k + 4 ≤ 2048) (v1 : Int32) (v2 : Int32) : wpX_cut (fun r u' => wpY_cut (fun r' v' => r' = r ∧ i_Rel (k + 4) u' v') v v1 v2) u v1 v2 := by
  obtain ⟨th, cn, ak, rl, vr, lv, B, W, G, A, M, D, E, rfl, rfl, hI⟩ := I
  unfold wpX_cut
  by_cases hq : ∃ q, q < 2 ∧ v1 = nI q
  · obtain ⟨q, hq, rfl⟩ := hq
    have c4 := hI.2.2.1 q hq
    refine xx_isQ hq (br_f (by decide) ?_)
    rcases pk_ix v2 (n := cn q) (by omega) with z | z | ⟨i, hi, e⟩
    · refine br_t z ?_
      unfold wpY_cut
      exact yy_isQ hq (br_f (by decide) (br_t z ⟨rfl, tj_rel hI⟩))
    · have bad : wpY_cut (fun r' v' => r' = -1 ∧ i_Rel (k + 4) (nI lv, B, tj_A cn, tj_A ak, tj_A rl, tj_A vr, W, G, A, M) v') (tj_T th, tj_A cn, tj_A rl, tj_A vr, tj_A ak, D, E) (nI q) v2 := by
        unfold wpY_cut
        refine yy_isQ hq (br_f (by decide) (br_c (fun y => ⟨rfl, tj_rel hI⟩) (fun y => ⟨vp_in_nI hq (by decide), ?_⟩)))
        rw [nI_clamp (n := q) (by omega), tj_Ap]
        exact br_f (Int32.not_lt.mpr z) ⟨rfl, tj_rel hI⟩
      refine br_c (fun y => bad) (fun y => ⟨vp_in_nI hq (by decide), ?_⟩)
      rw [nI_clamp (n := q) (by omega), tj_Ap]
      exact br_f (Int32.not_lt.mpr z) bad
    · subst e
      refine br_f (nI_pos (by omega)) ⟨vp_in_nI hq (by decide), ?_⟩
      rw [nI_clamp (n := q) (by omega), tj_Ap]
      refine br_t (nI_lt hi (by omega)) ⟨vp_in_nI hq (by decide), nm_r (tj_s1 (by omega)) ⟨cn q + 1, ?_⟩⟩
      refine xx_cut_l (i := i) hq (by omega) (by omega) (fun W' ha' => ?_) _ 0 W (by omega) (by omega) hI.2.2.2.2.1
      unfold wpY_cut
      refine yy_isQ hq (br_f (by decide) (br_f (nI_pos (by omega)) ⟨vp_in_nI hq (by decide), ?_⟩))
      rw [nI_clamp (n := q) (by omega), tj_Ap]
      refine br_t (nI_lt hi (by omega)) (nm_r (tj_f4 q i) ⟨cn q + 1, ?_⟩)
      refine yy_cut_l (i := i) hq c4 hi ⟨rfl, tj_rel ⟨hI.1, hI.2.1, fun p hp => ?_, hI.2.2.2.1, ha', hI.2.2.2.2.2⟩⟩ _ 0 (by omega) (by omega)
      by_cases e : p = q
      · subst e; rw [tj_u_s]; omega
      · rw [tj_u_n e]; exact hI.2.2.1 p hp
  · refine xx_nQ (fun j hj e => hq ⟨j, hj, e⟩) (br_t rfl ?_)
    unfold wpY_cut
    exact yy_nQ (fun j hj e => hq ⟨j, hj, e⟩) (br_t rfl ⟨rfl, tj_rel hI⟩)
theorem i_vc_add {k : Nat} {u : SX} {v : SY} (I : i_Rel k u v) (hk : k + 4 ≤ 2048) (v1 : Int32) (v2 : Int32) : wpX_add (fun r u' => wpY_add (fun r' v' => r' = r ∧ i_Rel (k + 4) u' v') v v1 v2) u v1 v2 := by
  obtain ⟨th, cn, ak, rl, vr, lv, B, W, G, A, M, D, E, rfl, rfl, hI⟩ := I
  unfold wpX_add
  by_cases hr : ∃ r row, r < 3 ∧ row < tj_n r ∧ v1 = nI r ∧ v2 = nI row
  · obtain ⟨r, row, hr, hw, rfl, rfl⟩ := hr
    have h375 := tj_LY_lt hr hw
    have llt : tj_LX r row < 468 := by
      unfold tj_LX
      rcases tj_on r with ⟨_, _, _, _⟩ | ⟨_, _, _, _⟩ <;> omega
    have eB : B (tj_LX r row) = _ := tj_Bl_leaf hI.1 hr hw
    have k16 := hI.2.1 r hr
    refine xx_isRow hr hw (br_f (by decide) (xx_leaf hr ⟨vp_in_nI llt (by decide), ?_⟩))
    rw [nI_clamp (n := tj_LX r row) (by omega), eB, tj_q156, nI_clamp (n := 156 * r) (by omega), tj_Bl_root hI.1 hr]
    cases ht : th (125 * r + row) with
    | true =>
      refine br_f (by decide) ?_
      unfold wpY_add
      refine yy_isRow hr hw (br_f (by decide) ⟨pk_in (125 * r + row) 375 h375 (tj_e125 r row), ?_⟩)
      rw [tj_e125, nI_clamp (by omega)]
      exact br_f (fun e => by rw [tj_T_f.mp e] at ht; exact absurd ht (by decide)) ⟨rfl, tj_rel hI⟩
    | false =>
      refine br_t (by decide) ⟨pk_in (156 * r) 468 (by omega), pk_lt (tj_k th (125 * r) 125) 16 (fun lt => ?_) (fun ge => ?_)⟩
      · refine xx_path (th' := tj_p th (125 * r + row) true) hI.1 hr hw (fun lo n h1 h2 => by rw [nI_1, tj_k_in ht h1 h2]) (fun lo n h => tj_k_out h) (fun j hj => tj_p_n hj) (fun B' hB' => ?_)
        unfold wpY_add
        refine yy_isRow hr hw (br_f (by decide) ⟨pk_in (125 * r + row) 375 h375 (tj_e125 r row), ?_⟩)
        rw [tj_e125, nI_clamp (by omega)]
        refine br_t (tj_T_f.mpr ht) (yy_rows hr (pk_eq (tj_k th (125 * r) 125) 16 (fun e => absurd e (by omega)) (fun e => ⟨vp_in_nI h375 (by decide), nm_r (e' := tj_T (tj_p th (125 * r + row) true)) (by rw [tj_vb1, tj_T_u]) ⟨rfl, tj_rel ⟨hB', fun p hp => ?_, hI.2.2⟩⟩⟩)))
        by_cases e : p = r
        · subst e
          have n5 : tj_n p ≤ 125 := by rcases tj_on p with ⟨_, _, _, _⟩ | ⟨_, _, _, _⟩ <;> omega
          rw [tj_k_in ht (by omega) (by omega)]
          omega
        · have n5 : tj_n r ≤ 125 := by rcases tj_on r with ⟨_, _, _, _⟩ | ⟨_, _, _, _⟩ <;> omega
          rw [tj_k_out (by omega)]
          exact hI.2.1 p hp
      · unfold wpY_add
        refine yy_isRow hr hw (br_f (by decide) ⟨pk_in (125 * r + row) 375 h375 (tj_e125 r row), ?_⟩)
        rw [tj_e125, nI_clamp (by omega)]
        exact br_t (tj_T_f.mpr ht) (yy_rows hr (pk_eq (tj_k th (125 * r) 125) 16 (fun e => ⟨rfl, tj_rel hI⟩) (fun e => absurd (show tj_k th (125 * r) 125 = 16 by omega) e)))
  · have hn : ∀ a b, a < 3 → b < tj_n a → v1 = nI a → v2 ≠ nI b := fun a b ha hb e1 e2 => hr ⟨a, b, ha, hb, e1, e2⟩
    refine xx_nRow hn (br_t rfl ?_)
    unfold wpY_add
    exact yy_nRow hn (br_t rfl ⟨rfl, tj_rel hI⟩)
theorem i_vc_remove {k : Nat} {u : SX} {v : SY} (I : i_Rel k u v) (hk : k + 4 ≤ 2048) (v1 : Int32) (v2 : Int32) : wpX_remove (fun r u' => wpY_remove (fun r' v' => r' = r ∧ i_Rel (k + 4) u' v') v v1 v2) u v1 v2 := by
  obtain ⟨th, cn, ak, rl, vr, lv, B, W, G, A, M, D, E, rfl, rfl, hI⟩ := I
  unfold wpX_remove
  by_cases hr : ∃ r row, r < 3 ∧ row < tj_n r ∧ v1 = nI r ∧ v2 = nI row
  · obtain ⟨r, row, hr, hw, rfl, rfl⟩ := hr
    have h375 := tj_LY_lt hr hw
    have llt : tj_LX r row < 468 := by
      unfold tj_LX
      rcases tj_on r with ⟨_, _, _, _⟩ | ⟨_, _, _, _⟩ <;> omega
    have eB : B (tj_LX r row) = _ := tj_Bl_leaf hI.1 hr hw
    refine xx_isRow hr hw (br_f (by decide) (xx_leaf hr ⟨vp_in_nI llt (by decide), ?_⟩))
    rw [nI_clamp (n := tj_LX r row) (by omega), eB]
    cases ht : th (125 * r + row) with
    | true =>
      refine br_f (by decide) (xx_path (th' := tj_p th (125 * r + row) false) hI.1 hr hw (fun lo n h1 h2 => by rw [← tj_k_off ht h1 h2, pk_m1]) (fun lo n h => tj_k_out h) (fun j hj => tj_p_n hj) (fun B' hB' => ?_))
      unfold wpY_remove
      refine yy_isRow hr hw (br_f (by decide) ⟨pk_in (125 * r + row) 375 h375 (tj_e125 r row), ?_⟩)
      rw [tj_e125, nI_clamp (by omega)]
      refine nm_e ⟨vp_in_nI h375 (by decide), nm_r (e' := tj_T (tj_p th (125 * r + row) false)) (by rw [tj_vb0, tj_T_c]) (br_f (fun e => by rw [tj_T_f.mp e] at ht; exact absurd ht (by decide)) ⟨rfl, tj_rel ⟨hB', fun p hp => ?_, hI.2.2⟩⟩)⟩
      have n5 : tj_n r ≤ 125 := by rcases tj_on r with ⟨_, _, _, _⟩ | ⟨_, _, _, _⟩ <;> omega
      have k16 := hI.2.1 p hp
      by_cases e : p = r
      · subst e
        have := tj_k_off ht (lo := 125 * p) (n := 125) (by omega) (by omega)
        omega
      · rw [tj_k_out (by omega)]
        exact k16
    | false =>
      refine br_t rfl ?_
      unfold wpY_remove
      refine yy_isRow hr hw (br_f (by decide) ⟨pk_in (125 * r + row) 375 h375 (tj_e125 r row), ?_⟩)
      rw [tj_e125, nI_clamp (by omega)]
      have eth : tj_p th (125 * r + row) false = th := by
        funext j
        by_cases e : j = 125 * r + row
        · rw [e, tj_p_s, ht]
        · rw [tj_p_n e]
      exact nm_e ⟨vp_in_nI h375 (by decide), nm_r (e' := tj_T th) (by rw [tj_vb0, tj_T_c, eth]) (br_t (tj_T_f.mpr ht) ⟨rfl, tj_rel hI⟩)⟩
  · have hn : ∀ a b, a < 3 → b < tj_n a → v1 = nI a → v2 ≠ nI b := fun a b ha hb e1 e2 => hr ⟨a, b, ha, hb, e1, e2⟩
    refine xx_nRow hn (br_t rfl ?_)
    unfold wpY_remove
    exact yy_nRow hn (br_t rfl ⟨rfl, tj_rel hI⟩)
end
section
/-! the calls that ask -/
theorem tj_Hne {rl vr : Nat → Nat} {q : Nat} : ∀ s i, tj_H rl vr q s i → tj_mi s (2 ^ i) ≠ 0 := by
  rintro s i ⟨j, _, hb, _⟩ e
  rw [e, Nat.zero_testBit] at hb
  exact absurd hb (by decide)
theorem i_vc_whole {k : Nat} {u : SX} {v : SY} (I : i_Rel k u v) (hk : k + 4 ≤ 2048) (v1 : Int32) : wpX_whole (fun r => wpY_whole (fun r' => r' = r ∧ i_Rel (k + 4) u v) v v1) u v1 := by
  obtain ⟨th, cn, ak, rl, vr, lv, B, W, G, A, M, D, E, rfl, rfl, hI⟩ := I
  unfold wpX_whole
  by_cases hq : ∃ q, q < 2 ∧ v1 = nI q
  · obtain ⟨q, hq, rfl⟩ := hq
    have c4 := hI.2.2.1 q hq
    have k5 := hI.2.2.2.1 q hq
    have ha := hI.2.2.2.2.1
    exact xx_isQ hq (br_f (by decide) (xx_isWhole hq c4 k5 ha (fun w => br_f (by decide) (yy_whole hq c4 k5 (tj_At_y ha) (fun _ => ⟨rfl, tj_rel hI⟩) (fun n => absurd w n))) (fun w => br_t rfl (yy_whole hq c4 k5 (tj_At_y ha) (fun y => absurd y w) (fun _ => ⟨rfl, tj_rel hI⟩)))))
  · refine xx_nQ (fun j hj e => hq ⟨j, hj, e⟩) (br_t rfl ?_)
    unfold wpY_whole
    exact yy_nQ (fun j hj e => hq ⟨j, hj, e⟩) (br_t rfl ⟨rfl, tj_rel hI⟩)
theorem i_vc_count {k : Nat} {u : SX} {v : SY} (I : i_Rel k u v) (hk : k + 4 ≤ 2048) (v1 : Int32) : wpX_count (fun r u' => wpY_count (fun r' v' => r' = r ∧ i_Rel (k + 4) u' v') v v1) u v1 := by
  obtain ⟨th, cn, ak, rl, vr, lv, B, W, G, A, M, D, E, rfl, rfl, hI⟩ := I
  unfold wpX_count
  by_cases hq : ∃ q, q < 2 ∧ v1 = nI q
  · obtain ⟨q, hq, rfl⟩ := hq
    have c4 := hI.2.2.1 q hq
    have k5 := hI.2.2.2.1 q hq
    have ha := hI.2.2.2.2.1
    have hl := hI.2.2.2.2.2
    refine xx_isQ hq (br_f (by decide) (xx_isWhole hq c4 k5 ha (fun w => br_f (by decide) (xx_try hq c4 k5 hl hI.1 ha (fun G A M hA hM => ⟨3126, xx_count_l ?_ 3126 0 (by omega) (by omega)⟩))) (fun w => br_t rfl ?_)))
    · unfold wpY_count
      refine yy_isQ hq (br_f (by decide) (yy_whole hq c4 k5 (tj_At_y ha) (fun _ => br_f (by decide) (yy_try hq c4 k5 (tj_At_y ha) (fun D E hD hE => ⟨3126, yy_count_l ⟨?_, tj_rel hI⟩ 3126 0 (by omega) (by omega)⟩))) (fun n => absurd w n)))
      have e := tj_B_eq hA hD
      exact congrArg nI (tj_k_eq (fun j _ hj => by unfold tj_m; rw [e j (by omega)])).symm
    · unfold wpY_count
      exact yy_isQ hq (br_f (by decide) (yy_whole hq c4 k5 (tj_At_y ha) (fun y => absurd y w) (fun _ => br_t rfl ⟨rfl, tj_rel hI⟩)))
  · refine xx_nQ (fun j hj e => hq ⟨j, hj, e⟩) (br_t rfl ?_)
    unfold wpY_count
    exact yy_nQ (fun j hj e => hq ⟨j, hj, e⟩) (br_t rfl ⟨rfl, tj_rel hI⟩)
theorem i_vc_answer {k : Nat} {u : SX} {v : SY} (I : i_Rel k u v) (hk : k + 4 ≤ 2048) (v1 : Int32) (v2 : Int32) : wpX_answer (fun r u' => wpY_answer (fun r' v' => r' = r ∧ i_Rel (k + 4) u' v') v v1 v2) u v1 v2 := by
  obtain ⟨th, cn, ak, rl, vr, lv, B, W, G, A, M, D, E, rfl, rfl, hI⟩ := I
  unfold wpX_answer
  by_cases hq : ∃ q, q < 2 ∧ v1 = nI q
  · obtain ⟨q, hq, rfl⟩ := hq
    have c4 := hI.2.2.1 q hq
    have k5 := hI.2.2.2.1 q hq
    have ha := hI.2.2.2.2.1
    have hl := hI.2.2.2.2.2
    refine xx_isQ hq (br_f (by decide) (xx_isWhole hq c4 k5 ha (fun w => br_f (by decide) (br_c (fun p => xx_try hq c4 k5 hl hI.1 ha (fun G A M hA hM => ⟨3126, xx_answer_l 3126 0 0 (by omega) (by omega) ?_⟩)) (fun p => ?_))) (fun w => br_t rfl ?_)))
    · unfold wpY_answer
      refine yy_isQ hq (br_f (by decide) (yy_whole hq c4 k5 (tj_At_y ha) (fun _ => br_f (by decide) (yy_try hq c4 k5 (tj_At_y ha) (fun D E hD hE => ⟨3126, yy_answer_l 3126 0 0 (by omega) (by omega) ⟨?_, tj_rel hI⟩⟩))) (fun n => absurd w n)))
      exact tj_fa_eq (tj_B_eq hD hA) _ _ _ (by omega)
    · unfold wpY_answer
      refine yy_isQ hq (br_f (by decide) (yy_whole hq c4 k5 (tj_At_y ha) (fun _ => br_f (by decide) (yy_try hq c4 k5 (tj_At_y ha) (fun D E hD hE => ⟨3126, yy_answer_l 3126 0 0 (by omega) (by omega) ⟨?_, tj_rel hI⟩⟩))) (fun n => absurd w n)))
      exact tj_fa_neg (Int32.not_le.mp p) _ _ _ (by decide)
    · unfold wpY_answer
      exact yy_isQ hq (br_f (by decide) (yy_whole hq c4 k5 (tj_At_y ha) (fun y => absurd y w) (fun _ => br_t rfl ⟨rfl, tj_rel hI⟩)))
  · refine xx_nQ (fun j hj e => hq ⟨j, hj, e⟩) (br_t rfl ?_)
    unfold wpY_answer
    exact yy_nQ (fun j hj e => hq ⟨j, hj, e⟩) (br_t rfl ⟨rfl, tj_rel hI⟩)
theorem i_vc_often {k : Nat} {u : SX} {v : SY} (I : i_Rel k u v) (hk : k + 4 ≤ 2048) (v1 : Int32) (v2 : Int32) (v3 : Int32) : wpX_often (fun r u' => wpY_often (fun r' v' => r' = r ∧ i_Rel (k + 4) u' v') v v1 v2 v3) u v1 v2 v3 := by
  obtain ⟨th, cn, ak, rl, vr, lv, B, W, G, A, M, D, E, rfl, rfl, hI⟩ := I
  unfold wpX_often
  by_cases hq : ∃ q, q < 2 ∧ v1 = nI q
  · obtain ⟨q, hq, rfl⟩ := hq
    have c4 := hI.2.2.1 q hq
    have k5 := hI.2.2.2.1 q hq
    have ha := hI.2.2.2.2.1
    have hl := hI.2.2.2.2.2
    refine xx_isQ hq (br_f (by decide) ?_)
    rcases pk_ix v2 (n := 5) (by decide) with z | z | ⟨w, hw, e⟩
    · refine br_t z ?_
      unfold wpY_often
      exact yy_isQ hq (br_f (by decide) (br_t z ⟨rfl, tj_rel hI⟩))
    · have bad : wpY_often (fun r' v' => r' = -1 ∧ i_Rel (k + 4) (nI lv, B, tj_A cn, tj_A ak, tj_A rl, tj_A vr, W, G, A, M) v') (tj_T th, tj_A cn, tj_A rl, tj_A vr, tj_A ak, D, E) (nI q) v2 v3 := by
        unfold wpY_often
        exact yy_isQ hq (br_f (by decide) (br_c (fun y => ⟨rfl, tj_rel hI⟩) (fun y => br_t (tj_lt_le (a := 4) (by decide) z) ⟨rfl, tj_rel hI⟩)))
      exact br_c (fun y => bad) (fun y => br_t z bad)
    · subst e
      refine br_f (nI_pos (by omega)) (br_f (nI_ge (b := 5) hw (by decide)) ?_)
      rcases pk_ix v3 (n := 5) (by decide) with z | z | ⟨x, hx, e⟩
      · refine br_t z ?_
        unfold wpY_often
        exact yy_isQ hq (br_f (by decide) (br_f (nI_pos (by omega)) (br_f (nI_nlt (a := 4) (by omega) (by decide)) (br_t z ⟨rfl, tj_rel hI⟩))))
      · have bad : wpY_often (fun r' v' => r' = -1 ∧ i_Rel (k + 4) (nI lv, B, tj_A cn, tj_A ak, tj_A rl, tj_A vr, W, G, A, M) v') (tj_T th, tj_A cn, tj_A rl, tj_A vr, tj_A ak, D, E) (nI q) (nI w) v3 := by
          unfold wpY_often
          exact yy_isQ hq (br_f (by decide) (br_f (nI_pos (by omega)) (br_f (nI_nlt (a := 4) (by omega) (by decide)) (br_c (fun y => ⟨rfl, tj_rel hI⟩) (fun y => br_f (tj_nle (a := 4) (by decide) z) ⟨rfl, tj_rel hI⟩)))))
        exact br_c (fun y => bad) (fun y => br_f (Int32.not_lt.mpr z) bad)
      · subst e
        have yst : ∀ (r : Int32) (G A M : Nat → Int32), (tj_wh cn ak rl vr q → (ak q).testBit w = true → ∀ D : Nat → Int32, tj_B D (tj_PA th rl vr (4 * q) (cn q) (ak q) 3125) 3125 → nI (tj_k (fun a => tj_m D a && decide (a / 5 ^ (tj_k (fun w => (ak q).testBit w) (w + 1) (4 - w)) % 5 = x)) 0 3125) = r) → (¬ (tj_wh cn ak rl vr q ∧ (ak q).testBit w = true) → -3 = r) →
            wpY_often (fun r' v' => r' = r ∧ i_Rel (k + 4) (nI lv, B, tj_A cn, tj_A ak, tj_A rl, tj_A vr, W, G, A, M) v') (tj_T th, tj_A cn, tj_A rl, tj_A vr, tj_A ak, D, E) (nI q) (nI w) (nI x) := by
          intro r G A M g1 g0
          unfold wpY_often
          refine yy_isQ hq (br_f (by decide) (br_f (nI_pos (by omega)) (br_f (nI_nlt (a := 4) (by omega) (by decide)) (br_f (nI_pos (by omega)) (br_t (nI_le (b := 4) (by omega) (by decide)) (yy_whole hq c4 k5 (tj_At_y ha) (fun wh => br_f (by decide) ⟨vp_in_nI hq (by decide), ?_⟩) (fun wh => br_t rfl ⟨g0 (fun y => wh y.1), tj_rel hI⟩)))))))
          rw [nI_clamp (n := q) (by omega), tj_Ap]
          refine yy_in (by omega) (by omega) (fun hb => br_f (by decide) (yy_try hq c4 k5 (tj_At_y ha) (fun D E hD hE => nm_r (nI_1 w) ⟨6, yy_often66 hq k5 hw hx ⟨g1 wh hb D hD, tj_rel hI⟩ 6 0 (by omega) (by omega)⟩))) (fun hb => br_t rfl ⟨g0 (fun y => ?_), tj_rel hI⟩)
          rw [hb] at y
          exact absurd y.2 (by decide)
        refine br_f (nI_pos (by omega)) (br_t (nI_lt (b := 5) hx (by decide)) (xx_isWhole hq c4 k5 ha (fun wh => br_f (by decide) ⟨vp_in_nI hq (by decide), ?_⟩) (fun wh => br_t rfl (yst _ G A M (fun y => absurd y wh) (fun _ => rfl)))))
        rw [nI_clamp (n := q) (by omega), tj_Ap]
        have kl := tj_k_le (fun w => (ak q).testBit w) (w + 1) (4 - w)
        refine xx_has (by omega) (by omega) (fun hb => br_f (by decide) (xx_try hq c4 k5 hl hI.1 ha (fun G A M hA hM => xx_after hq k5 hw ⟨3126, xx_often_l hx (by omega) (yst _ G A M (fun _ _ D hD => ?_) (fun n => absurd ⟨wh, hb⟩ n)) 3126 0 (by omega) (by omega)⟩))) (fun hb => br_t rfl (yst _ G A M (fun _ y => by rw [hb] at y; exact absurd y (by decide)) (fun _ => rfl)))
        exact congrArg nI (tj_m_eq (tj_B_eq hD hA) _)
  · refine xx_nQ (fun j hj e => hq ⟨j, hj, e⟩) (br_t rfl ?_)
    unfold wpY_often
    exact yy_nQ (fun j hj e => hq ⟨j, hj, e⟩) (br_t rfl ⟨rfl, tj_rel hI⟩)
theorem i_vc_idle {k : Nat} {u : SX} {v : SY} (I : i_Rel k u v) (hk : k + 4 ≤ 2048) (v1 : Int32) : wpX_idle (fun r u' => wpY_idle (fun r' v' => r' = r ∧ i_Rel (k + 4) u' v') v v1) u v1 := by
  obtain ⟨th, cn, ak, rl, vr, lv, B, W, G, A, M, D, E, rfl, rfl, hI⟩ := I
  unfold wpX_idle
  by_cases hq : ∃ q, q < 2 ∧ v1 = nI q
  · obtain ⟨q, hq, rfl⟩ := hq
    have c4 := hI.2.2.1 q hq
    have k5 := hI.2.2.2.1 q hq
    have ha := hI.2.2.2.2.1
    have hl := hI.2.2.2.2.2
    refine xx_isQ hq (br_f (by decide) ⟨vp_in_nI hq (by decide), ?_⟩)
    rw [nI_clamp (n := q) (by omega), tj_Ap]
    refine pk_eq (cn q) 0 (fun e => ?_) (fun e => ?_)
    · unfold wpY_idle
      refine yy_isQ hq (br_f (by decide) ⟨vp_in_nI hq (by decide), ?_⟩)
      rw [nI_clamp (n := q) (by omega), tj_Ap]
      exact pk_eq (cn q) 0 (fun _ => ⟨rfl, tj_rel hI⟩) (fun y => absurd e y)
    · refine xx_try hq c4 k5 hl hI.1 ha (fun G A M hA hM => xx_idle30 (a := tj_k th 0 125) (b := tj_k th 125 125) (c := tj_k th 250 125) (tj_Bl_root hI.1 (r := 0) (by decide)) (tj_Bl_root hI.1 (r := 1) (by decide)) (tj_Bl_root hI.1 (r := 2) (by decide)) ?_)
      unfold wpY_idle
      refine yy_isQ hq (br_f (by decide) ⟨vp_in_nI hq (by decide), ?_⟩)
      rw [nI_clamp (n := q) (by omega), tj_Ap]
      refine pk_eq (cn q) 0 (fun y => absurd y e) (fun _ => yy_try hq c4 k5 (tj_At_y ha) (fun D E hD hE => ⟨376, yy_idle_l ⟨?_, tj_rel hI⟩ 376 0 (by omega) (by omega)⟩))
      have id := tj_idle (fun i hi => (ha (4 * q + i) (by omega)).1) hM hE
      rw [pk_sub (by omega)]
      exact congrArg nI (by omega)
  · refine xx_nQ (fun j hj e => hq ⟨j, hj, e⟩) (br_t rfl ?_)
    unfold wpY_idle
    exact yy_nQ (fun j hj e => hq ⟨j, hj, e⟩) (br_t rfl ⟨rfl, tj_rel hI⟩)
theorem i_vc_treeLike {k : Nat} {u : SX} {v : SY} (I : i_Rel k u v) (hk : k + 4 ≤ 2048) (v1 : Int32) : wpX_treeLike (fun r => wpY_treeLike (fun r' => r' = r ∧ i_Rel (k + 4) u v) v v1) u v1 := by
  obtain ⟨th, cn, ak, rl, vr, lv, B, W, G, A, M, D, E, rfl, rfl, hI⟩ := I
  unfold wpX_treeLike
  by_cases hq : ∃ q, q < 2 ∧ v1 = nI q
  · obtain ⟨q, hq, rfl⟩ := hq
    have c4 := hI.2.2.1 q hq
    have ha := hI.2.2.2.2.1
    obtain ⟨p1, p2, p3⟩ := tj_p1 c4
    refine xx_isQ hq (br_f (by decide) (xx_all hq c4 ⟨5, xx_tree_l hq ha 5 0 _ (by omega) (by omega) (by omega) (fun eX hX => ?_)⟩))
    have key : ∀ r : Int32, (∀ eY, tj_chn (tj_SY (tj_H rl vr q)) 4 (2 ^ cn q - 1) eY → (tj_s eY ≤ 1 → 1 = r) ∧ (¬ tj_s eY ≤ 1 → 0 = r)) → wpY_treeLike (fun r' => r' = r ∧ i_Rel (k + 4) (nI lv, B, tj_A cn, tj_A ak, tj_A rl, tj_A vr, W, G, A, M) (tj_T th, tj_A cn, tj_A rl, tj_A vr, tj_A ak, D, E)) (tj_T th, tj_A cn, tj_A rl, tj_A vr, tj_A ak, D, E) (nI q) := by
      intro r hr
      unfold wpY_treeLike
      exact yy_isQ hq (br_f (by decide) (yy_all hq c4 ⟨5, yy_tree_l hq c4 (tj_At_y ha) 5 0 _ (by omega) (by omega) p1 (fun eY hY => ⟨fun a => ⟨(hr eY hY).1 a, tj_rel hI⟩, fun a => ⟨(hr eY hY).2 a, tj_rel hI⟩⟩)⟩))
    have tr : ∀ eY, tj_chn (tj_SY (tj_H rl vr q)) 4 (2 ^ cn q - 1) eY → (eX = 0 ↔ tj_s eY ≤ 1) := fun eY hY => tj_tree tj_Hne 4 _ eX eY (by omega) (tj_s_le _ (by omega)) hX hY
    exact ⟨fun e => key 1 (fun eY hY => ⟨fun _ => rfl, fun n => absurd ((tr eY hY).mp e) n⟩), fun e => key 0 (fun eY hY => ⟨fun y => absurd ((tr eY hY).mpr y) e, fun _ => rfl⟩)⟩
  · refine xx_nQ (fun j hj e => hq ⟨j, hj, e⟩) (br_t rfl ?_)
    unfold wpY_treeLike
    exact yy_nQ (fun j hj e => hq ⟨j, hj, e⟩) (br_t rfl ⟨rfl, tj_rel hI⟩)
theorem i_vc_smallest {k : Nat} {u : SX} {v : SY} (I : i_Rel k u v) (hk : k + 4 ≤ 2048) (v1 : Int32) : wpX_smallest (fun r u' => wpY_smallest (fun r' => r' = r ∧ i_Rel (k + 4) u' v) v v1) u v1 := by
  obtain ⟨th, cn, ak, rl, vr, lv, B, W, G, A, M, D, E, rfl, rfl, hI⟩ := I
  unfold wpX_smallest
  by_cases hq : ∃ q, q < 2 ∧ v1 = nI q
  · obtain ⟨q, hq, rfl⟩ := hq
    have c4 := hI.2.2.1 q hq
    have k5 := hI.2.2.2.1 q hq
    have ha := hI.2.2.2.2.1
    refine xx_isQ hq (br_f (by decide) (xx_isWhole hq c4 k5 ha (fun w => br_f (by decide) ⟨vp_in_nI hq (by decide), nm_r (e' := nI (cn q)) (by rw [nI_clamp (by omega), tj_Ap]) ⟨3126, ?_⟩⟩) (fun w => br_t rfl ?_)))
    · have h0 : 0 < cn q := Nat.pos_of_ne_zero w.1
      obtain ⟨p1, p2, p3⟩ := tj_p1 c4
      refine xx_small_l hq c4 h0 k5 ha (fun x G hx => ?_) 3126 0 (cn q) G (by omega) (by omega) tj_SX_0
      unfold wpY_smallest
      refine yy_isQ hq (br_f (by decide) (yy_whole hq c4 k5 (tj_At_y ha) (fun _ => br_f (by decide) ⟨vp_in_nI hq (by decide), nm_r (e' := nI (cn q)) (by rw [nI_clamp (by omega), tj_Ap]) ⟨2 ^ cn q + 1, ?_⟩⟩) (fun n => absurd w n)))
      refine yy_small_l hq c4 k5 (tj_At_y ha) (fun y hy => ⟨?_, tj_rel hI⟩) _ 1 (cn q) (Nat.two_pow_pos _) (by omega) tj_SZ_1
      have vl := tj_vo_lt (f := (fun i => tj_so (rl (4 * q + i)) (vr (4 * q + i)))) (s := 2 ^ cn q - 1) (fun i => tj_so_lt _ _) (cn q)
      exact congrArg nI (tj_smallest c4 h0 ((tj_mi0 _ k5 _ vl).mp w.2) hx hy).symm
    · unfold wpY_smallest
      exact yy_isQ hq (br_f (by decide) (yy_whole hq c4 k5 (tj_At_y ha) (fun y => absurd y w) (fun _ => br_t rfl ⟨rfl, tj_rel hI⟩)))
  · refine xx_nQ (fun j hj e => hq ⟨j, hj, e⟩) (br_t rfl ?_)
    unfold wpY_smallest
    exact yy_nQ (fun j hj e => hq ⟨j, hj, e⟩) (br_t rfl ⟨rfl, tj_rel hI⟩)
theorem yy_within {post : Int32 → Prop} {th : Nat → Bool} {D E : Nat → Int32} {cn ak rl vr : Nat → Nat} {q : Nat} (hq : q < 2) (hc : ∀ q, q < 2 → cn q ≤ 4) (hk : ∀ q, q < 2 → ak q < 32) (ha : tj_Ay rl vr)
    (h1 : tj_wh cn ak rl vr 0 → tj_wh cn ak rl vr 1 → ak 0 = ak 1 → (∃ d, d < 3125 ∧ tj_Into rl vr (ak (1 - q)) (tj_g d) (4 * (1 - q)) (cn (1 - q)) (4 * q) (cn q) (2 ^ cn q - 1)) → post 1)
    (h0 : tj_wh cn ak rl vr 0 → tj_wh cn ak rl vr 1 → ak 0 = ak 1 → ¬ (∃ d, d < 3125 ∧ tj_Into rl vr (ak (1 - q)) (tj_g d) (4 * (1 - q)) (cn (1 - q)) (4 * q) (cn q) (2 ^ cn q - 1)) → post 0)
    (hN : ¬ (tj_wh cn ak rl vr 0 ∧ tj_wh cn ak rl vr 1 ∧ ak 0 = ak 1) → post (-3)) : wpY_within post (tj_T th, tj_A cn, tj_A rl, tj_A vr, tj_A ak, D, E) (nI q) := by
  obtain ⟨p1, p2, p3⟩ := tj_p1 (hc q hq)
  have b0 := hk 0 (by decide)
  have b1 := hk 1 (by decide)
  unfold wpY_within
  refine yy_isQ hq (br_f (by decide) (yy_whole (q := 0) (by decide) (hc 0 (by decide)) b0 ha (fun w0 => br_f (by decide) (yy_whole (q := 1) (by decide) (hc 1 (by decide)) b1 ha (fun w1 => br_f (by decide) (pk_eq (ak 0) (ak 1) (fun e => yy_all hq (hc q hq) ?_) (fun e => hN (fun y => e y.2.2)))) (fun w1 => br_t rfl (hN (fun y => w1 y.2.1))))) (fun w0 => br_t rfl (hN (fun y => w0 y.1)))))
  rw [tj_1s (by omega)]
  exact yy_cm (by omega) hq (hc _ (by omega)) (hc q hq) (hk _ (by omega)) (by omega) ha (fun y => br_f (by decide) (h1 w0 w1 e y)) (fun y => br_t rfl (h0 w0 w1 e y))
theorem i_vc_within {k : Nat} {u : SX} {v : SY} (I : i_Rel k u v) (hk : k + 4 ≤ 2048) (v1 : Int32) : wpX_within (fun r u' => wpY_within (fun r' => r' = r ∧ i_Rel (k + 4) u' v) v v1) u v1 := by
  obtain ⟨th, cn, ak, rl, vr, lv, B, W, G, A, M, D, E, rfl, rfl, hI⟩ := I
  unfold wpX_within
  by_cases hq : ∃ q, q < 2 ∧ v1 = nI q
  · obtain ⟨q, hq, rfl⟩ := hq
    have hc := hI.2.2.1
    have hk5 := hI.2.2.2.1
    have ha := hI.2.2.2.2.1
    have ho : 1 - q < 2 := by omega
    have bq := hk5 q hq
    have bo := hk5 (1 - q) ho
    have all : (tj_wh cn ak rl vr 0 ∧ tj_wh cn ak rl vr 1 ∧ ak 0 = ak 1) ↔ (tj_wh cn ak rl vr q ∧ tj_wh cn ak rl vr (1 - q) ∧ ak q = ak (1 - q)) := by
      have : q = 0 ∨ q = 1 := by omega
      rcases this with rfl | rfl
      · exact Iff.rfl
      · exact ⟨fun ⟨a, b, c⟩ => ⟨b, a, c.symm⟩, fun ⟨a, b, c⟩ => ⟨b, a, c.symm⟩⟩
    have none : ¬ (tj_wh cn ak rl vr q ∧ tj_wh cn ak rl vr (1 - q) ∧ ak q = ak (1 - q)) → wpY_within (fun r' => r' = -3 ∧ i_Rel (k + 4) (nI lv, B, tj_A cn, tj_A ak, tj_A rl, tj_A vr, W, G, A, M) (tj_T th, tj_A cn, tj_A rl, tj_A vr, tj_A ak, D, E)) (tj_T th, tj_A cn, tj_A rl, tj_A vr, tj_A ak, D, E) (nI q) := fun n =>
      yy_within hq hc hk5 (tj_At_y ha) (fun a b c => absurd (all.mp ⟨a, b, c⟩) n) (fun a b c => absurd (all.mp ⟨a, b, c⟩) n) (fun _ => ⟨rfl, tj_rel hI⟩)
    refine xx_isQ hq (br_f (by decide) (nm_r (tj_1s (by omega)) (xx_isWhole hq (hc q hq) bq ha (fun wq => br_f (by decide) (xx_isWhole ho (hc _ ho) bo ha (fun wo => br_f (by decide) ⟨vp_in_nI hq (by decide), vp_in_nI ho (by decide), ?_⟩) (fun wo => br_t rfl (none (fun y => wo y.2.1))))) (fun wq => br_t rfl (none (fun y => wq y.1))))))
    rw [nI_clamp (n := q) (by omega), nI_clamp (n := 1 - q) (by omega)]
    refine pk_eq (ak q) (ak (1 - q)) (fun e => ⟨3126, ?_⟩) (fun e => none (fun y => e y.2.2))
    have aa := all.mpr ⟨wq, wo, e⟩
    refine xx_within_l hq ho (hc q hq) (hc _ ho) (Nat.pos_of_ne_zero wo.1) bo ha (fun y G => ?_) (fun y G => ?_) 3126 0 G (by omega) (by omega) (fun d hd => by omega)
    · exact yy_within hq hc hk5 (tj_At_y ha) (fun _ _ _ _ => ⟨rfl, tj_rel hI⟩) (fun _ _ _ n => absurd y n) (fun n => absurd aa n)
    · exact yy_within hq hc hk5 (tj_At_y ha) (fun _ _ _ n => absurd n y) (fun _ _ _ _ => ⟨rfl, tj_rel hI⟩) (fun n => absurd aa n)
  · refine xx_nQ (fun j hj e => hq ⟨j, hj, e⟩) (br_t rfl ?_)
    unfold wpY_within
    exact yy_nQ (fun j hj e => hq ⟨j, hj, e⟩) (br_t rfl ⟨rfl, tj_rel hI⟩)
end
