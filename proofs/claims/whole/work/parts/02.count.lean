/-! counting, the trie's counts, codes -/
/-- how many of f lo, .., f (lo + n - 1) hold -/
def tj_k (f : Nat → Bool) (lo : Nat) : Nat → Nat
  | 0 => 0
  | n + 1 => tj_k f lo n + (if f (lo + n) = true then 1 else 0)
theorem tj_k_le (f : Nat → Bool) (lo : Nat) : ∀ n, tj_k f lo n ≤ n := by
  intro n
  induction n with
  | zero => exact Nat.le_refl 0
  | succ n ih => unfold tj_k; split <;> omega
theorem tj_k_eq {f g : Nat → Bool} {lo : Nat} : ∀ {n : Nat}, (∀ j, lo ≤ j → j < lo + n → f j = g j) → tj_k f lo n = tj_k g lo n := by
  intro n
  induction n with
  | zero => intro _; rfl
  | succ n ih =>
    intro h
    unfold tj_k
    rw [ih (fun j a b => h j a (by omega)), h (lo + n) (by omega) (by omega)]
theorem tj_k_zero {f : Nat → Bool} {lo : Nat} : ∀ {n : Nat}, tj_k f lo n = 0 → ∀ j, lo ≤ j → j < lo + n → f j = false := by
  intro n
  induction n with
  | zero => intro _ j a b; omega
  | succ n ih =>
    intro h j a b
    unfold tj_k at h
    by_cases e : j = lo + n
    · subst e
      cases hf : f (lo + n) with
      | false => rfl
      | true => rw [hf] at h; simp at h
    · exact ih (by omega) j a (by omega)
theorem tj_k_none {f : Nat → Bool} {lo : Nat} : ∀ {n : Nat}, (∀ j, lo ≤ j → j < lo + n → f j = false) → tj_k f lo n = 0 := by
  intro n
  induction n with
  | zero => intro _; rfl
  | succ n ih =>
    intro h
    unfold tj_k
    rw [ih (fun j a b => h j a (by omega)), h (lo + n) (by omega) (by omega)]
    rfl
theorem tj_k_1 (f : Nat → Bool) (lo : Nat) : tj_k f lo 1 = if f lo = true then 1 else 0 := by
  show 0 + (if f (lo + 0) = true then 1 else 0) = _
  rw [Nat.zero_add, Nat.add_zero]
theorem tj_k_add (f : Nat → Bool) (lo a : Nat) : ∀ b, tj_k f lo (a + b) = tj_k f lo a + tj_k f (lo + a) b := by
  intro b
  induction b with
  | zero => rfl
  | succ b ih =>
    show tj_k f lo (a + b) + (if f (lo + (a + b)) = true then 1 else 0) = tj_k f lo a + (tj_k f (lo + a) b + (if f (lo + a + b) = true then 1 else 0))
    rw [ih, Nat.add_assoc lo a b]
    omega
theorem tj_k_sh {f g : Nat → Bool} {a b : Nat} : ∀ {n : Nat}, (∀ j, j < n → f (a + j) = g (b + j)) → tj_k f a n = tj_k g b n := by
  intro n
  induction n with
  | zero => intro _; rfl
  | succ n ih =>
    intro h
    unfold tj_k
    rw [ih (fun j hj => h j (by omega)), h n (by omega)]
/-- f with k put to b -/
def tj_p (f : Nat → Bool) (k : Nat) (b : Bool) : Nat → Bool := fun j => if j = k then b else f j
theorem tj_p_s {f : Nat → Bool} {k : Nat} {b : Bool} : tj_p f k b k = b := if_pos rfl
theorem tj_p_n {f : Nat → Bool} {k j : Nat} {b : Bool} (h : j ≠ k) : tj_p f k b j = f j := if_neg h
theorem tj_k_out {f : Nat → Bool} {k lo n : Nat} {b : Bool} (h : ¬ (lo ≤ k ∧ k < lo + n)) : tj_k (tj_p f k b) lo n = tj_k f lo n :=
  tj_k_eq (fun j a c => tj_p_n (by omega))
theorem tj_k_in {f : Nat → Bool} {k lo : Nat} (hf : f k = false) : ∀ {n : Nat}, lo ≤ k → k < lo + n → tj_k (tj_p f k true) lo n = tj_k f lo n + 1 := by
  intro n
  induction n with
  | zero => intro a b; omega
  | succ n ih =>
    intro a b
    unfold tj_k
    by_cases e : k = lo + n
    · subst e
      rw [tj_k_out (by omega), tj_p_s, hf]
      rfl
    · rw [ih a (by omega), tj_p_n (by omega)]
      omega
theorem tj_k_off {f : Nat → Bool} {k lo : Nat} (hf : f k = true) : ∀ {n : Nat}, lo ≤ k → k < lo + n → tj_k (tj_p f k false) lo n + 1 = tj_k f lo n := by
  intro n a b
  have e : tj_p (tj_p f k false) k true = f := by
    funext j
    by_cases h : j = k
    · subst h; rw [tj_p_s, hf]
    · rw [tj_p_n h, tj_p_n h]
  have := tj_k_in (f := tj_p f k false) tj_p_s a b
  rw [e] at this
  exact this.symm
/-- those of f that aren't of g, and g, are f -/
theorem tj_k_diff {f g : Nat → Bool} {lo : Nat} : ∀ {n : Nat}, (∀ j, lo ≤ j → j < lo + n → g j = true → f j = true) → tj_k (fun j => f j && !g j) lo n + tj_k g lo n = tj_k f lo n := by
  intro n
  induction n with
  | zero => intro _; rfl
  | succ n ih =>
    intro h
    have i := ih (fun j a b => h j a (by omega))
    have l := h (lo + n) (by omega) (by omega)
    rcases Bool.eq_false_or_eq_true (g (lo + n)) with hg | hg
    · have hf := l hg
      simp [tj_k, hf, hg] <;> omega
    · rcases Bool.eq_false_or_eq_true (f (lo + n)) with hf | hf <;> simp [tj_k, hf, hg] <;> omega
/-! the trie -/
def tj_Bl (B : Nat → Int32) (th : Nat → Bool) : Prop :=
  ((∀ j, j < 125 → B (343 + j) = nI (tj_k th (250 + j) 1)) ∧ (∀ j, j < 25 → B (318 + j) = nI (tj_k th (250 + 5 * j) 5)) ∧ (∀ j, j < 5 → B (313 + j) = nI (tj_k th (250 + 25 * j) 25)) ∧ B 312 = nI (tj_k th 250 125)) ∧
  (∀ r, r < 2 → (∀ j, j < 25 → B (156 * r + 6 + j) = nI (tj_k th (125 * r + j) 1)) ∧ (∀ j, j < 5 → B (156 * r + 1 + j) = nI (tj_k th (125 * r + 5 * j) 5)) ∧ B (156 * r) = nI (tj_k th (125 * r) 125)) ∧
  (∀ r, r < 2 → ∀ j, 25 ≤ j → j < 125 → th (125 * r + j) = false)
theorem tj_Bl_root {B : Nat → Int32} {th : Nat → Bool} (h : tj_Bl B th) {r : Nat} (hr : r < 3) : B (156 * r) = nI (tj_k th (125 * r) 125) := by
  by_cases e : r = 2
  · subst e; exact h.1.2.2.2
  · exact (h.2.1 r (by omega)).2.2
theorem tj_Bl_leaf {B : Nat → Int32} {th : Nat → Bool} (h : tj_Bl B th) {r row : Nat} (hr : r < 3) (hw : row < tj_n r) : B (156 * r + (tj_o r + row)) = nI (if th (125 * r + row) = true then 1 else 0) := by
  rw [← tj_k_1]
  rcases tj_on r with ⟨e, _, a, b⟩ | ⟨e, _, a, b⟩
  · subst e
    rw [b, show 156 * 2 + (31 + row) = 343 + row by omega]
    exact h.1.1 row (by omega)
  · rw [b, show 156 * r + (6 + row) = 156 * r + 6 + row by omega]
    exact (h.2.1 r (by omega)).1 row (by omega)
/-- a path of the wide relation changed -/
theorem tj_path_w {B : Nat → Int32} {th th' : Nat → Bool} {row : Nat} {dl : Int32} (h : tj_Bl B th) (hr : row < 125)
    (hi : ∀ lo n, lo ≤ 250 + row → 250 + row < lo + n → nI (tj_k th lo n) + dl = nI (tj_k th' lo n))
    (ho : ∀ lo n, ¬ (lo ≤ 250 + row ∧ 250 + row < lo + n) → tj_k th' lo n = tj_k th lo n) (hz : ∀ j, j ≠ 250 + row → th' j = th j)
    (B1 B2 B3 B4 : Nat → Int32) (e1 : B1 = upd B (343 + row) (B (343 + row) + dl)) (e2 : B2 = upd B1 (318 + row / 5) (B1 (318 + row / 5) + dl)) (e3 : B3 = upd B2 (313 + row / 25) (B2 (313 + row / 25) + dl)) (e4 : B4 = upd B3 312 (B3 312 + dl)) : tj_Bl B4 th' := by
  obtain ⟨⟨w1, w2, w3, w4⟩, hn, hf⟩ := h
  have d1 : B1 (318 + row / 5) = B (318 + row / 5) := by rw [e1]; exact pk_un (by omega)
  have d2 : B2 (313 + row / 25) = B (313 + row / 25) := by rw [e2, pk_un (by omega), e1]; exact pk_un (by omega)
  have d3 : B3 312 = B 312 := by rw [e3, pk_un (by omega), e2, pk_un (by omega), e1]; exact pk_un (by omega)
  have c1 : B4 (343 + row) = B (343 + row) + dl := by rw [e4, pk_un (by omega), e3, pk_un (by omega), e2, pk_un (by omega), e1, pk_us]
  have c2 : B4 (318 + row / 5) = B (318 + row / 5) + dl := by rw [e4, pk_un (by omega), e3, pk_un (by omega), e2, pk_us, d1]
  have c3 : B4 (313 + row / 25) = B (313 + row / 25) + dl := by rw [e4, pk_un (by omega), e3, pk_us, d2]
  have c4 : B4 312 = B 312 + dl := by rw [e4, pk_us, d3]
  have cn : ∀ j, j ≠ 343 + row → j ≠ 318 + row / 5 → j ≠ 313 + row / 25 → j ≠ 312 → B4 j = B j := by
    intro j a b c d
    rw [e4, pk_un d, e3, pk_un c, e2, pk_un b, e1, pk_un a]
  refine ⟨⟨?_, ?_, ?_, ?_⟩, ?_, ?_⟩
  · intro j hj
    by_cases e : j = row
    · subst e; rw [c1, w1 j hj]; exact hi _ _ (by omega) (by omega)
    · rw [cn _ (by omega) (by omega) (by omega) (by omega), w1 j hj, ho _ _ (by omega)]
  · intro j hj
    by_cases e : j = row / 5
    · subst e; rw [c2, w2 _ hj]; exact hi _ _ (by omega) (by omega)
    · rw [cn _ (by omega) (by omega) (by omega) (by omega), w2 j hj, ho _ _ (by omega)]
  · intro j hj
    by_cases e : j = row / 25
    · subst e; rw [c3, w3 _ hj]; exact hi _ _ (by omega) (by omega)
    · rw [cn _ (by omega) (by omega) (by omega) (by omega), w3 j hj, ho _ _ (by omega)]
  · rw [c4, w4]; exact hi _ _ (by omega) (by omega)
  · intro r hr2
    obtain ⟨n1, n2, n3⟩ := hn r hr2
    refine ⟨fun j hj => ?_, fun j hj => ?_, ?_⟩
    · rw [cn _ (by omega) (by omega) (by omega) (by omega), n1 j hj, ho _ _ (by omega)]
    · rw [cn _ (by omega) (by omega) (by omega) (by omega), n2 j hj, ho _ _ (by omega)]
    · rw [cn _ (by omega) (by omega) (by omega) (by omega), n3, ho _ _ (by omega)]
  · intro r hr2 j a b
    rw [hz _ (by omega)]
    exact hf r hr2 j a b
/-- a path of a narrow relation changed -/
theorem tj_path_n {B : Nat → Int32} {th th' : Nat → Bool} {r row : Nat} {dl : Int32} (h : tj_Bl B th) (h2 : r < 2) (hr : row < 25)
    (hi : ∀ lo n, lo ≤ 125 * r + row → 125 * r + row < lo + n → nI (tj_k th lo n) + dl = nI (tj_k th' lo n))
    (ho : ∀ lo n, ¬ (lo ≤ 125 * r + row ∧ 125 * r + row < lo + n) → tj_k th' lo n = tj_k th lo n) (hz : ∀ j, j ≠ 125 * r + row → th' j = th j)
    (B1 B2 B3 : Nat → Int32) (e1 : B1 = upd B (156 * r + 6 + row) (B (156 * r + 6 + row) + dl)) (e2 : B2 = upd B1 (156 * r + 1 + row / 5) (B1 (156 * r + 1 + row / 5) + dl)) (e3 : B3 = upd B2 (156 * r) (B2 (156 * r) + dl)) : tj_Bl B3 th' := by
  obtain ⟨⟨w1, w2, w3, w4⟩, hn, hf⟩ := h
  have d1 : B1 (156 * r + 1 + row / 5) = B (156 * r + 1 + row / 5) := by rw [e1]; exact pk_un (by omega)
  have d2 : B2 (156 * r) = B (156 * r) := by rw [e2, pk_un (by omega), e1]; exact pk_un (by omega)
  have c1 : B3 (156 * r + 6 + row) = B (156 * r + 6 + row) + dl := by rw [e3, pk_un (by omega), e2, pk_un (by omega), e1, pk_us]
  have c2 : B3 (156 * r + 1 + row / 5) = B (156 * r + 1 + row / 5) + dl := by rw [e3, pk_un (by omega), e2, pk_us, d1]
  have c3 : B3 (156 * r) = B (156 * r) + dl := by rw [e3, pk_us, d2]
  have cn : ∀ j, j ≠ 156 * r + 6 + row → j ≠ 156 * r + 1 + row / 5 → j ≠ 156 * r → B3 j = B j := by
    intro j a b c
    rw [e3, pk_un c, e2, pk_un b, e1, pk_un a]
  refine ⟨⟨?_, ?_, ?_, ?_⟩, ?_, ?_⟩
  · intro j hj
    rw [cn _ (by omega) (by omega) (by omega), w1 j hj, ho _ _ (by omega)]
  · intro j hj
    rw [cn _ (by omega) (by omega) (by omega), w2 j hj, ho _ _ (by omega)]
  · intro j hj
    rw [cn _ (by omega) (by omega) (by omega), w3 j hj, ho _ _ (by omega)]
  · rw [cn _ (by omega) (by omega) (by omega), w4, ho _ _ (by omega)]
  · intro p hp
    obtain ⟨n1, n2, n3⟩ := hn p hp
    by_cases e : p = r
    · subst e
      refine ⟨fun j hj => ?_, fun j hj => ?_, ?_⟩
      · by_cases e : j = row
        · subst e; rw [c1, n1 j hj]; exact hi _ _ (by omega) (by omega)
        · rw [cn _ (by omega) (by omega) (by omega), n1 j hj, ho _ _ (by omega)]
      · by_cases e : j = row / 5
        · subst e; rw [c2, n2 _ hj]; exact hi _ _ (by omega) (by omega)
        · rw [cn _ (by omega) (by omega) (by omega), n2 j hj, ho _ _ (by omega)]
      · rw [c3, n3]; exact hi _ _ (by omega) (by omega)
    · refine ⟨fun j hj => ?_, fun j hj => ?_, ?_⟩
      · rw [cn _ (by omega) (by omega) (by omega), n1 j hj, ho _ _ (by omega)]
      · rw [cn _ (by omega) (by omega) (by omega), n2 j hj, ho _ _ (by omega)]
      · rw [cn _ (by omega) (by omega) (by omega), n3, ho _ _ (by omega)]
  · intro p hp j a b
    rw [hz _ (by omega)]
    exact hf p hp j a b
/-! codes that agree -/
theorem tj_g_up {c d v u : Nat} (hv : v ≤ 4) (h : c / 5 ^ (4 - v) = d / 5 ^ (4 - v)) (hu : u ≤ v) : tj_g c u = tj_g d u := by
  have e : 5 ^ (4 - u) = 5 ^ (4 - v) * 5 ^ (v - u) := by
    rw [← Nat.pow_add, show 4 - v + (v - u) = 4 - u by omega]
  unfold tj_g
  rw [e, ← Nat.div_div_eq_div_mul, ← Nat.div_div_eq_div_mul, h]
/-- the first code behind those that agree with c on 0 .. v -/
def tj_x (c v : Nat) : Nat := (c / 5 ^ (4 - v) + 1) * 5 ^ (4 - v)
theorem tj_x_gt (c v : Nat) : c < tj_x c v := by
  have := Nat.lt_div_mul_add (a := c) (b := 5 ^ (4 - v)) (Nat.pow_pos (by decide))
  unfold tj_x
  rw [Nat.add_mul, Nat.one_mul]
  exact this
theorem tj_x_in {c d v : Nat} (h1 : c ≤ d) (h2 : d < tj_x c v) : c / 5 ^ (4 - v) = d / 5 ^ (4 - v) := by
  have hp : 0 < 5 ^ (4 - v) := Nat.pow_pos (by decide)
  have a : c / 5 ^ (4 - v) ≤ d / 5 ^ (4 - v) := Nat.div_le_div_right h1
  have b : d / 5 ^ (4 - v) < c / 5 ^ (4 - v) + 1 := (Nat.div_lt_iff_lt_mul hp).mpr h2
  omega
theorem tj_x_le {c v : Nat} (hv : v ≤ 4) (h : c < 3125) : tj_x c v ≤ 3125 := by
  have : v = 0 ∨ v = 1 ∨ v = 2 ∨ v = 3 ∨ v = 4 := by omega
  unfold tj_x
  rcases this with rfl | rfl | rfl | rfl | rfl
  · show (c / 625 + 1) * 625 ≤ 3125
    omega
  · show (c / 125 + 1) * 125 ≤ 3125
    omega
  · show (c / 25 + 1) * 25 ≤ 3125
    omega
  · show (c / 5 + 1) * 5 ≤ 3125
    omega
  · show (c / 1 + 1) * 1 ≤ 3125
    omega
theorem tj_x_4 (c : Nat) : tj_x c 4 = c + 1 := by
  show (c / 1 + 1) * 1 = _
  omega
/-- the code of what is given -/
theorem tj_g_5 {c : Nat} (h : c < 3125) : c = 625 * tj_g c 0 + 125 * tj_g c 1 + 25 * tj_g c 2 + 5 * tj_g c 3 + tj_g c 4 := by
  show c = 625 * (c / 625 % 5) + 125 * (c / 125 % 5) + 25 * (c / 25 % 5) + 5 * (c / 5 % 5) + c / 1 % 5
  omega
/-- what is asked of a code -/
def tj_ao (a : Nat) (g : Nat → Nat) : Nat → Nat
  | 0 => 0
  | v + 1 => if a.testBit v = true then 5 * tj_ao a g v + g v else tj_ao a g v
theorem tj_ao_lt {a : Nat} {g : Nat → Nat} (h : ∀ v, v < 5 → g v < 5) : ∀ n, n ≤ 5 → tj_ao a g n < 5 ^ n := by
  intro n
  induction n with
  | zero => intro _; exact Nat.one_pos
  | succ n ih =>
    intro hn
    have i := ih (by omega)
    have := h n (by omega)
    unfold tj_ao
    rw [Nat.pow_succ]
    split <;> omega
/-! a path without rows -/
theorem tj_f30 {t : Nat → Bool} {vs : Nat} {g g' : Nat → Nat} (h5 : ∀ v, v < 5 → g' v < 5) (hk : tj_k t (250 + 25 * g (tj_c 2 vs 0)) 25 = 0) (h0 : g' (tj_c 2 vs 0) = g (tj_c 2 vs 0)) : t (250 + tj_row 2 vs g') = false := by
  have a1 := h5 _ (tj_c_lt 2 vs 1)
  have a2 := h5 _ (tj_c_lt 2 vs 2)
  refine tj_k_zero hk _ ?_ ?_ <;> (rw [tj_row2, h0]; omega)
theorem tj_f31 {t : Nat → Bool} {vs : Nat} {g g' : Nat → Nat} (h5 : ∀ v, v < 5 → g' v < 5) (hk : tj_k t (250 + 5 * (5 * g (tj_c 2 vs 0) + g (tj_c 2 vs 1))) 5 = 0) (h0 : g' (tj_c 2 vs 0) = g (tj_c 2 vs 0)) (h1 : g' (tj_c 2 vs 1) = g (tj_c 2 vs 1)) : t (250 + tj_row 2 vs g') = false := by
  have a2 := h5 _ (tj_c_lt 2 vs 2)
  refine tj_k_zero hk _ ?_ ?_ <;> (rw [tj_row2, h0, h1]; omega)
theorem tj_f20 {t : Nat → Bool} {r vs : Nat} {g g' : Nat → Nat} (hr : r ≠ 2) (h5 : ∀ v, v < 5 → g' v < 5) (hk : tj_k t (125 * r + 5 * g (tj_c r vs 0)) 5 = 0) (h0 : g' (tj_c r vs 0) = g (tj_c r vs 0)) : t (125 * r + tj_row r vs g') = false := by
  have a1 := h5 _ (tj_c_lt r vs 1)
  refine tj_k_zero hk _ ?_ ?_ <;> (rw [tj_rown hr, h0]; omega)
theorem tj_fw {t : Nat → Bool} {r vs m b : Nat} {g g' : Nat → Nat} (hm : ∀ c, c < tj_w r → tj_c r vs c ≤ m) (hf : t (b + tj_row r vs g) = false) (ha : ∀ v, v ≤ m → g' v = g v) : t (b + tj_row r vs g') = false := by
  rw [tj_row_eq (fun c hc => ha _ (hm c hc))]
  exact hf
