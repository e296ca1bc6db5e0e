/-! smallest and within, without programs -/
theorem tj_Im_0 {rl vr : Nat → Nat} {g : Nat → Nat} {b d m : Nat} : tj_Im rl vr g b 0 d m 0 :=
  ⟨fun i hi => absurd hi (by omega), fun j z => absurd z (by rw [Nat.zero_testBit]; decide)⟩
theorem tj_Im_s {rl vr : Nat → Nat} {g : Nat → Nat} {b n d m R j : Nat} (h : tj_Im rl vr g b n d m R) (hf : tj_Fst rl vr d m (rl (b + n)) (tj_row (rl (b + n)) (vr (b + n)) g) j) : tj_Im rl vr g b (n + 1) d m (R ||| 2 ^ j) := by
  constructor
  · intro i hi
    by_cases e : i = n
    · subst e
      exact ⟨j, by rw [Nat.testBit_or, Nat.testBit_two_pow_self, Bool.or_true], hf⟩
    · obtain ⟨k, hk, f⟩ := h.1 i (by omega)
      exact ⟨k, by rw [Nat.testBit_or, hk, Bool.true_or], f⟩
  · intro k hk
    rw [Nat.testBit_or, Bool.or_eq_true, Nat.testBit_two_pow, decide_eq_true_eq] at hk
    rcases hk with hk | hk
    · obtain ⟨i, hi, f⟩ := h.2 k hk
      exact ⟨i, by omega, f⟩
    · subst hk
      exact ⟨n, by omega, hf⟩
theorem tj_Im_u {rl vr : Nat → Nat} {g : Nat → Nat} {b n d m R R' : Nat} (h : tj_Im rl vr g b n d m R) (h' : tj_Im rl vr g b n d m R') : R = R' := by
  have key : ∀ {R R' : Nat}, tj_Im rl vr g b n d m R → tj_Im rl vr g b n d m R' → ∀ j, R.testBit j = true → R'.testBit j = true := by
    intro R R' h h' j z
    obtain ⟨i, hi, f⟩ := h.2 j z
    obtain ⟨k, hk, f'⟩ := h'.1 i hi
    rw [tj_Fst_u f f']
    exact hk
  apply Nat.eq_of_testBit_eq
  intro j
  exact tj_b_ext ⟨key h h' j, key h' h j⟩
theorem tj_Im_ex {rl vr : Nat → Nat} {g : Nat → Nat} {a b d m A : Nat} : ∀ {n : Nat}, tj_Into rl vr a g b n d m A → ∃ R, tj_Im rl vr g b n d m R := by
  intro n
  induction n with
  | zero => exact fun _ => ⟨0, tj_Im_0⟩
  | succ n ih =>
    intro h
    obtain ⟨R, hR⟩ := ih ⟨h.1, fun i hi => h.2 i (by omega)⟩
    obtain ⟨j, hj, _, e1, e2⟩ := h.2 n (by omega)
    obtain ⟨k, _, f⟩ := tj_Fst_ex hj ⟨e1, e2⟩
    exact ⟨_, tj_Im_s hR f⟩
theorem tj_Im_ne {rl vr : Nat → Nat} {g : Nat → Nat} {b n d m R : Nat} (h : tj_Im rl vr g b n d m R) (hn : 0 < n) : R ≠ 0 := by
  intro e
  obtain ⟨j, hj, _⟩ := h.1 0 hn
  rw [e, Nat.zero_testBit] at hj
  exact absurd hj (by decide)
theorem tj_Into_all {rl vr : Nat → Nat} {g : Nat → Nat} {a b n d m A : Nat} (h : tj_Into rl vr a g b n d m A) : tj_Into rl vr a g b n d m (2 ^ m - 1) := by
  refine ⟨h.1, fun i hi => ?_⟩
  obtain ⟨j, hj, _, e⟩ := h.2 i hi
  exact ⟨j, hj, by rw [Nat.testBit_two_pow_sub_one]; exact decide_eq_true hj, e⟩
/-- what a renaming answers: 0 and it leads nowhere, or its image -/
def tj_RS (rl vr : Nat → Nat) (a : Nat) (g : Nat → Nat) (b n d m R : Nat) : Prop :=
  (R = 0 ∧ ∀ A, ¬ tj_Into rl vr a g b n d m A) ∨ (tj_fix a g ∧ tj_Im rl vr g b n d m R)
def tj_Le (P : Nat → Prop) (n m : Nat) : Prop := m ≤ n ∧ (m = n ∨ P m) ∧ ∀ k, P k → m ≤ k
theorem tj_Le_u {P Q : Nat → Prop} {n x y : Nat} (hX : tj_Le P n x) (hY : tj_Le Q n y) (h1 : ∀ k, P k → ∃ k', k' ≤ k ∧ Q k') (h2 : ∀ k, Q k → ∃ k', k' ≤ k ∧ P k') : x = y := by
  obtain ⟨a1, a2, a3⟩ := hX
  obtain ⟨b1, b2, b3⟩ := hY
  apply Nat.le_antisymm
  · rcases b2 with e | e
    · omega
    · obtain ⟨k, hk, p⟩ := h2 _ e
      exact Nat.le_trans (a3 k p) hk
  · rcases a2 with e | e
    · omega
    · obtain ⟨k, hk, p⟩ := h1 _ e
      exact Nat.le_trans (b3 k p) hk
/-- sizes of images of the codes below c -/
def tj_SX (rl vr : Nat → Nat) (a b n c k : Nat) : Prop := ∃ d R, d < c ∧ tj_fix a (tj_g d) ∧ tj_Im rl vr (tj_g d) b n b n R ∧ tj_s R = k
/-- sets of atoms below c that are whole and that a renaming leads into -/
def tj_ok (rl vr : Nat → Nat) (a b n A : Nat) : Prop := A ≠ 0 ∧ (∀ v, v < 5 → a.testBit v = true → (tj_vo (fun i => tj_so (rl (b + i)) (vr (b + i))) A n).testBit v = true) ∧ (∃ d, d < 3125 ∧ tj_Into rl vr a (tj_g d) b n b n A)
def tj_SZ (rl vr : Nat → Nat) (a b n c k : Nat) : Prop := ∃ A, A < c ∧ tj_ok rl vr a b n A ∧ tj_s A = k
theorem tj_smallest {rl vr : Nat → Nat} {a b n x y : Nat} (hn : n ≤ 4) (h0 : 0 < n) (hw : ∀ v, v < 5 → a.testBit v = true → (tj_vo (fun i => tj_so (rl (b + i)) (vr (b + i))) (2 ^ n - 1) n).testBit v = true)
    (hX : tj_Le (tj_SX rl vr a b n 3125) n x) (hY : tj_Le (tj_SZ rl vr a b n (2 ^ n)) n y) : x = y := by
  have h16 : 2 ^ n ≤ 16 := Nat.pow_le_pow_right (n := 2) (by decide) hn
  refine tj_Le_u hX hY ?_ ?_
  · rintro k ⟨d, R, hd, hf, hi, e⟩
    refine ⟨k, Nat.le_refl k, R, tj_Im_lt hi, ⟨tj_Im_ne hi h0, ?_, ⟨d, hd, tj_Im_into hf hi⟩⟩, e⟩
    refine tj_Im_whole (fun v _ => tj_g_lt d v) hf hi (fun v hv ha => ?_)
    obtain ⟨i, h1, _, h3⟩ := tj_vo_b.mp (hw v hv ha)
    exact ⟨i, h1, h3⟩
  · rintro k ⟨A, hA, ⟨_, _, ⟨d, hd, hi⟩⟩, e⟩
    obtain ⟨R, hR⟩ := tj_Im_ex hi
    refine ⟨tj_s R, ?_, d, R, hd, hi.1, hR, rfl⟩
    rw [← e]
    exact tj_small_le hn (by omega) hi hR
/-- one code more -/
theorem tj_SX_s {rl vr : Nat → Nat} {a b n c k : Nat} : tj_SX rl vr a b n (c + 1) k ↔ (tj_SX rl vr a b n c k ∨ ∃ R, tj_fix a (tj_g c) ∧ tj_Im rl vr (tj_g c) b n b n R ∧ tj_s R = k) := by
  constructor
  · rintro ⟨d, R, hd, r⟩
    by_cases e : d = c
    · subst e; exact Or.inr ⟨R, r⟩
    · exact Or.inl ⟨d, R, by omega, r⟩
  · rintro (⟨d, R, hd, r⟩ | ⟨R, r⟩)
    · exact ⟨d, R, by omega, r⟩
    · exact ⟨c, R, by omega, r⟩
theorem tj_Le_0 {P : Nat → Prop} {n : Nat} (h : ∀ k, ¬ P k) : tj_Le P n n := ⟨Nat.le_refl n, Or.inl rfl, fun k z => absurd z (h k)⟩
theorem tj_Le_c {P Q : Nat → Prop} {n m : Nat} (h : tj_Le P n m) (e : ∀ k, P k ↔ Q k) : tj_Le Q n m :=
  ⟨h.1, h.2.1.imp id (e m).mp, fun k z => h.2.2 k ((e k).mpr z)⟩
/-- a smaller one is found -/
theorem tj_Le_dn {P : Nat → Prop} {n m z : Nat} (h : tj_Le P n m) (hz : z < m) : tj_Le (fun k => P k ∨ k = z) n z :=
  ⟨by have := h.1; omega, Or.inr (Or.inr rfl), fun k c => c.elim (fun p => by have := h.2.2 k p; omega) (fun e => by omega)⟩
theorem tj_Le_up {P : Nat → Prop} {n m z : Nat} (h : tj_Le P n m) (hz : m ≤ z) : tj_Le (fun k => P k ∨ k = z) n m :=
  ⟨h.1, h.2.1.imp id Or.inl, fun k c => c.elim (h.2.2 k) (fun e => by omega)⟩
/-- X's turn -/
theorem tj_SX_dn {rl vr : Nat → Nat} {a b n c m R : Nat} (h : tj_Le (tj_SX rl vr a b n c) n m) (hf : tj_fix a (tj_g c)) (hi : tj_Im rl vr (tj_g c) b n b n R) (hz : tj_s R < m) : tj_Le (tj_SX rl vr a b n (c + 1)) n (tj_s R) := by
  refine tj_Le_c (tj_Le_dn h hz) (fun k => ?_)
  rw [tj_SX_s]
  refine ⟨fun z => z.imp id (fun e => ⟨R, hf, hi, e.symm⟩), fun z => z.imp id (fun ⟨R', _, hi', e⟩ => ?_)⟩
  rw [← e, tj_Im_u hi hi']
theorem tj_SX_up {rl vr : Nat → Nat} {a b n c m R : Nat} (h : tj_Le (tj_SX rl vr a b n c) n m) (hi : tj_RS rl vr a (tj_g c) b n b n R) (hz : R ≠ 0 → m ≤ tj_s R) (h0 : 0 < n) : tj_Le (tj_SX rl vr a b n (c + 1)) n m := by
  rcases hi with ⟨e, no⟩ | ⟨hf, hi⟩
  · refine tj_Le_c h (fun k => ?_)
    rw [tj_SX_s]
    exact ⟨Or.inl, fun z => z.elim id (fun ⟨R', hf, hi', _⟩ => absurd (tj_Im_into hf hi') (no _))⟩
  · refine tj_Le_c (tj_Le_up h (hz (tj_Im_ne hi h0))) (fun k => ?_)
    rw [tj_SX_s]
    refine ⟨fun z => z.imp id (fun e => ⟨R, hf, hi, e.symm⟩), fun z => z.imp id (fun ⟨R', _, hi', e⟩ => ?_)⟩
    rw [← e, tj_Im_u hi hi']
/-- Y's turn -/
theorem tj_SZ_s {rl vr : Nat → Nat} {a b n c k : Nat} : tj_SZ rl vr a b n (c + 1) k ↔ (tj_SZ rl vr a b n c k ∨ (tj_ok rl vr a b n c ∧ tj_s c = k)) := by
  constructor
  · rintro ⟨A, hA, r⟩
    by_cases e : A = c
    · subst e; exact Or.inr r
    · exact Or.inl ⟨A, by omega, r⟩
  · rintro (⟨A, hA, r⟩ | r)
    · exact ⟨A, by omega, r⟩
    · exact ⟨c, by omega, r⟩
theorem tj_SZ_dn {rl vr : Nat → Nat} {a b n c m : Nat} (h : tj_Le (tj_SZ rl vr a b n c) n m) (ok : tj_ok rl vr a b n c) (hz : tj_s c < m) : tj_Le (tj_SZ rl vr a b n (c + 1)) n (tj_s c) := by
  refine tj_Le_c (tj_Le_dn h hz) (fun k => ?_)
  rw [tj_SZ_s]
  exact ⟨fun z => z.imp id (fun e => ⟨ok, e.symm⟩), fun z => z.imp id (fun e => e.2.symm)⟩
theorem tj_SZ_up {rl vr : Nat → Nat} {a b n c m : Nat} (h : tj_Le (tj_SZ rl vr a b n c) n m) (hz : tj_ok rl vr a b n c → m ≤ tj_s c) : tj_Le (tj_SZ rl vr a b n (c + 1)) n m := by
  by_cases ok : tj_ok rl vr a b n c
  · refine tj_Le_c (tj_Le_up h (hz ok)) (fun k => ?_)
    rw [tj_SZ_s]
    exact ⟨fun z => z.imp id (fun e => ⟨ok, e.symm⟩), fun z => z.imp id (fun e => e.2.symm)⟩
  · refine tj_Le_c h (fun k => ?_)
    rw [tj_SZ_s]
    exact ⟨Or.inl, fun z => z.elim id (fun e => absurd e.1 ok)⟩
theorem tj_SZ_1 {rl vr : Nat → Nat} {a b n : Nat} : tj_Le (tj_SZ rl vr a b n 1) n n :=
  tj_Le_0 (fun k ⟨A, hA, ⟨h0, _⟩, _⟩ => h0 (by omega))
theorem tj_SX_0 {rl vr : Nat → Nat} {a b n : Nat} : tj_Le (tj_SX rl vr a b n 0) n n :=
  tj_Le_0 (fun k ⟨d, R, hd, _⟩ => absurd hd (by omega))
