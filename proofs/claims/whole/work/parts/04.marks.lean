/-! choices, faults, marks -/
def tj_ch (th : Nat → Bool) (rl vr : Nat → Nat) (b n : Nat) (g : Nat → Nat) : Prop := ∀ i, i < n → th (125 * rl (b + i) + tj_row (rl (b + i)) (vr (b + i)) g) = true
def tj_FA (th : Nat → Bool) (r vs code f : Nat) : Prop :=
  (f = 5 ∧ th (125 * r + tj_row r vs (tj_g code)) = true) ∨ (f ≤ 4 ∧ ∀ d, (∀ v, v ≤ f → tj_g d v = tj_g code v) → th (125 * r + tj_row r vs (tj_g d)) = false)
def tj_FS (th : Nat → Bool) (rl vr : Nat → Nat) (b n code f : Nat) : Prop :=
  (f = 5 ∧ tj_ch th rl vr b n (tj_g code)) ∨ (f ≤ 4 ∧ ∀ d, (∀ v, v ≤ f → tj_g d v = tj_g code v) → ¬ tj_ch th rl vr b n (tj_g d))
theorem tj_FS_0 (th : Nat → Bool) (rl vr : Nat → Nat) (b code : Nat) : tj_FS th rl vr b 0 code 5 := Or.inl ⟨rfl, fun i hi => absurd hi (by omega)⟩
theorem tj_FS_le {th : Nat → Bool} {rl vr : Nat → Nat} {b n code f : Nat} (h : tj_FS th rl vr b n code f) : f ≤ 5 := by
  rcases h with ⟨h, _⟩ | ⟨h, _⟩ <;> omega
theorem tj_FA_le {th : Nat → Bool} {r vs code f : Nat} (h : tj_FA th r vs code f) : f ≤ 5 := by
  rcases h with ⟨h, _⟩ | ⟨h, _⟩ <;> omega
theorem tj_FS_lo {th : Nat → Bool} {rl vr : Nat → Nat} {b n code f e : Nat} (h1 : tj_FA th (rl (b + n)) (vr (b + n)) code e) (he : e < f) (hf : f ≤ 5) : tj_FS th rl vr b (n + 1) code e := by
  rcases h1 with ⟨h, _⟩ | ⟨h, z⟩
  · omega
  · refine Or.inr ⟨h, fun d hd c => ?_⟩
    have := c n (by omega)
    rw [z d hd] at this
    exact absurd this (by decide)
theorem tj_FS_hi {th : Nat → Bool} {rl vr : Nat → Nat} {b n code f e : Nat} (h : tj_FS th rl vr b n code f) (h1 : tj_FA th (rl (b + n)) (vr (b + n)) code e) (he : f ≤ e) : tj_FS th rl vr b (n + 1) code f := by
  rcases h with ⟨h, c⟩ | ⟨h, z⟩
  · rcases h1 with ⟨h', t⟩ | ⟨h', _⟩
    · refine Or.inl ⟨h, fun i hi => ?_⟩
      by_cases e' : i = n
      · subst e'; exact t
      · exact c i (by omega)
    · omega
  · exact Or.inr ⟨h, fun d hd c => z d hd (fun i hi => c i (by omega))⟩
/-- an array of marks -/
def tj_B (A : Nat → Int32) (P : Nat → Prop) (N : Nat) : Prop := ∀ k, k < N → (A k = 1 ∧ P k) ∨ (A k = 0 ∧ ¬ P k)
theorem tj_B_u {A : Nat → Int32} {P : Nat → Prop} {N j : Nat} (h : tj_B A P N) : tj_B (upd A j 1) (fun k => P k ∨ j = k) N := by
  intro k hk
  by_cases e : k = j
  · subst e; exact Or.inl ⟨pk_us, Or.inr rfl⟩
  · rw [pk_un e]
    rcases h k hk with ⟨a, p⟩ | ⟨a, p⟩
    · exact Or.inl ⟨a, Or.inl p⟩
    · exact Or.inr ⟨a, fun z => z.elim p (fun z => e z.symm)⟩
theorem tj_B_c {A : Nat → Int32} {P Q : Nat → Prop} {N : Nat} (h : tj_B A P N) (e : ∀ k, k < N → (P k ↔ Q k)) : tj_B A Q N := by
  intro k hk
  rcases h k hk with ⟨a, p⟩ | ⟨a, p⟩
  · exact Or.inl ⟨a, (e k hk).mp p⟩
  · exact Or.inr ⟨a, fun z => p ((e k hk).mpr z)⟩
theorem tj_B_0 {A : Nat → Int32} {P : Nat → Prop} {N : Nat} (h : ∀ k, k < N → A k = 0) (n : ∀ k, ¬ P k) : tj_B A P N := fun k hk => Or.inr ⟨h k hk, n k⟩
theorem tj_B_eq {A A' : Nat → Int32} {P : Nat → Prop} {N : Nat} (h : tj_B A P N) (h' : tj_B A' P N) : ∀ k, k < N → A k = A' k := by
  intro k hk
  rcases h k hk with ⟨a, p⟩ | ⟨a, p⟩ <;> rcases h' k hk with ⟨a', p'⟩ | ⟨a', p'⟩
  · rw [a, a']
  · exact absurd p p'
  · exact absurd p' p
  · rw [a, a']
/-- answers of the codes below c -/
def tj_PA (th : Nat → Bool) (rl vr : Nat → Nat) (b n a c k : Nat) : Prop := ∃ d, d < c ∧ tj_ch th rl vr b n (tj_g d) ∧ tj_ao a (tj_g d) 5 = k
/-- places (by L) of the rows matched by the codes below c -/
def tj_PM (L : Nat → Nat → Nat) (th : Nat → Bool) (rl vr : Nat → Nat) (b n c k : Nat) : Prop := ∃ d, d < c ∧ tj_ch th rl vr b n (tj_g d) ∧ ∃ i, i < n ∧ L (rl (b + i)) (tj_row (rl (b + i)) (vr (b + i)) (tj_g d)) = k
theorem tj_PA_skip {th : Nat → Bool} {rl vr : Nat → Nat} {b n a c c' k : Nat} (h : c ≤ c') (hs : ∀ d, c ≤ d → d < c' → ¬ tj_ch th rl vr b n (tj_g d)) : tj_PA th rl vr b n a c k ↔ tj_PA th rl vr b n a c' k := by
  constructor
  · rintro ⟨d, hd, r⟩
    exact ⟨d, by omega, r⟩
  · rintro ⟨d, hd, r, e⟩
    rcases Nat.lt_or_ge d c with z | z
    · exact ⟨d, z, r, e⟩
    · exact absurd r (hs d z hd)
theorem tj_PM_skip {L : Nat → Nat → Nat} {th : Nat → Bool} {rl vr : Nat → Nat} {b n c c' k : Nat} (h : c ≤ c') (hs : ∀ d, c ≤ d → d < c' → ¬ tj_ch th rl vr b n (tj_g d)) : tj_PM L th rl vr b n c k ↔ tj_PM L th rl vr b n c' k := by
  constructor
  · rintro ⟨d, hd, r⟩
    exact ⟨d, by omega, r⟩
  · rintro ⟨d, hd, r, e⟩
    rcases Nat.lt_or_ge d c with z | z
    · exact ⟨d, z, r, e⟩
    · exact absurd r (hs d z hd)
theorem tj_PA_one {th : Nat → Bool} {rl vr : Nat → Nat} {b n a c k : Nat} (hc : tj_ch th rl vr b n (tj_g c)) : (tj_PA th rl vr b n a c k ∨ tj_ao a (tj_g c) 5 = k) ↔ tj_PA th rl vr b n a (c + 1) k := by
  constructor
  · rintro (⟨d, hd, r⟩ | e)
    · exact ⟨d, by omega, r⟩
    · exact ⟨c, by omega, hc, e⟩
  · rintro ⟨d, hd, r, e⟩
    by_cases z : d = c
    · subst z; exact Or.inr e
    · exact Or.inl ⟨d, by omega, r, e⟩
theorem tj_PM_one {L : Nat → Nat → Nat} {th : Nat → Bool} {rl vr : Nat → Nat} {b n c k : Nat} (hc : tj_ch th rl vr b n (tj_g c)) : (tj_PM L th rl vr b n c k ∨ ∃ i, i < n ∧ L (rl (b + i)) (tj_row (rl (b + i)) (vr (b + i)) (tj_g c)) = k) ↔ tj_PM L th rl vr b n (c + 1) k := by
  constructor
  · rintro (⟨d, hd, r⟩ | e)
    · exact ⟨d, by omega, r⟩
    · exact ⟨c, by omega, hc, e⟩
  · rintro ⟨d, hd, r, e⟩
    by_cases z : d = c
    · subst z; exact Or.inr e
    · exact Or.inl ⟨d, by omega, r, e⟩
theorem tj_PA_0 {th : Nat → Bool} {rl vr : Nat → Nat} {b n a k : Nat} : ¬ tj_PA th rl vr b n a 0 k := fun ⟨d, hd, _⟩ => absurd hd (by omega)
theorem tj_PM_0 {L : Nat → Nat → Nat} {th : Nat → Bool} {rl vr : Nat → Nat} {b n k : Nat} : ¬ tj_PM L th rl vr b n 0 k := fun ⟨d, hd, _⟩ => absurd hd (by omega)
/-- nothing between a code and the first behind its fault -/
theorem tj_skip {th : Nat → Bool} {rl vr : Nat → Nat} {b n c f : Nat} (h : tj_FS th rl vr b n c f) (hf : f ≤ 4) : ∀ d, c ≤ d → d < tj_x c f → ¬ tj_ch th rl vr b n (tj_g d) := by
  intro d h1 h2
  rcases h with ⟨e, _⟩ | ⟨_, z⟩
  · omega
  · exact z d (fun v hv => (tj_g_up hf (tj_x_in h1 h2) hv).symm)
/-! how many marks -/
def tj_m (A : Nat → Int32) : Nat → Bool := fun k => decide (¬ A k = 0)
theorem tj_m_P {A : Nat → Int32} {P : Nat → Prop} {N k : Nat} (h : tj_B A P N) (hk : k < N) : tj_m A k = true ↔ P k := by
  unfold tj_m
  rw [decide_eq_true_eq]
  rcases h k hk with ⟨a, p⟩ | ⟨a, p⟩
  · exact ⟨fun _ => p, fun _ => by rw [a]; decide⟩
  · exact ⟨fun z => absurd a z, fun z => absurd z p⟩
theorem tj_b_ext {x y : Bool} (h : x = true ↔ y = true) : x = y := by
  cases x <;> cases y <;> simp_all
def tj_LX (r row : Nat) : Nat := 156 * r + (tj_o r + row)
def tj_LY (r row : Nat) : Nat := 125 * r + row
/-- the same rows are matched on both sides -/
theorem tj_match {th : Nat → Bool} {rl vr : Nat → Nat} {b n c r : Nat} (hr : r < 3) (hl : ∀ i, i < n → rl (b + i) < 3) : ∀ row, row < tj_n r → (tj_PM tj_LX th rl vr b n c (tj_LX r row) ↔ tj_PM tj_LY th rl vr b n c (tj_LY r row)) := by
  intro row hw
  have key : ∀ p x, p < 3 → x < tj_n p → (tj_LX p x = tj_LX r row ↔ tj_LY p x = tj_LY r row) := by
    intro p x hp hx
    unfold tj_LX tj_LY
    rcases tj_on p with ⟨_, _, _, _⟩ | ⟨_, _, _, _⟩ <;> rcases tj_on r with ⟨_, _, _, _⟩ | ⟨_, _, _, _⟩ <;> omega
  constructor
  · rintro ⟨d, hd, hc, i, hi, e⟩
    exact ⟨d, hd, hc, i, hi, (key _ _ (hl i hi) (tj_row_lt (fun v _ => tj_g_lt d v))).mp e⟩
  · rintro ⟨d, hd, hc, i, hi, e⟩
    exact ⟨d, hd, hc, i, hi, (key _ _ (hl i hi) (tj_row_lt (fun v _ => tj_g_lt d v))).mpr e⟩
theorem tj_PM_in {L : Nat → Nat → Nat} {th : Nat → Bool} {rl vr : Nat → Nat} {b n c k : Nat} (hl : ∀ i, i < n → rl (b + i) < 3) (h : tj_PM L th rl vr b n c k) : ∃ r row, r < 3 ∧ row < tj_n r ∧ L r row = k ∧ th (tj_LY r row) = true := by
  obtain ⟨d, hd, hc, i, hi, e⟩ := h
  exact ⟨_, _, hl i hi, tj_row_lt (fun v _ => tj_g_lt d v), e, hc i hi⟩
/-- one relation's marks: as many on both sides -/
theorem tj_mk_r {M M' : Nat → Int32} {th : Nat → Bool} {rl vr : Nat → Nat} {b n c r : Nat} (hr : r < 3) (hl : ∀ i, i < n → rl (b + i) < 3) (hX : tj_B M (tj_PM tj_LX th rl vr b n c) 468) (hY : tj_B M' (tj_PM tj_LY th rl vr b n c) 375) :
    tj_k (tj_m M) (156 * r) 156 = tj_k (tj_m M') (125 * r) 125 := by
  have ho : tj_o r + tj_n r ≤ 156 ∧ tj_n r ≤ 125 := by rcases tj_on r with ⟨_, _, _, _⟩ | ⟨_, _, _, _⟩ <;> omega
  have e1 : 156 = tj_o r + (tj_n r + (156 - tj_o r - tj_n r)) := by omega
  have e2 : 125 = tj_n r + (125 - tj_n r) := by omega
  have a1 : tj_k (tj_m M) (156 * r) 156 = tj_k (tj_m M) (156 * r) (tj_o r) + (tj_k (tj_m M) (156 * r + tj_o r) (tj_n r) + tj_k (tj_m M) (156 * r + tj_o r + tj_n r) (156 - tj_o r - tj_n r)) := by
    rw [← tj_k_add, ← tj_k_add, ← e1]
  have a2 : tj_k (tj_m M') (125 * r) 125 = tj_k (tj_m M') (125 * r) (tj_n r) + tj_k (tj_m M') (125 * r + tj_n r) (125 - tj_n r) := by
    rw [← tj_k_add, ← e2]
  have nX : ∀ j, j < 156 → ¬ (tj_o r ≤ j ∧ j < tj_o r + tj_n r) → tj_m M (156 * r + j) = false := by
    intro j hj hn
    cases z : tj_m M (156 * r + j) with
    | false => rfl
    | true =>
      obtain ⟨p, x, hp, hx, e, _⟩ := tj_PM_in hl ((tj_m_P hX (by omega)).mp z)
      have hp' : tj_o p + tj_n p ≤ 156 := by rcases tj_on p with ⟨_, _, _, _⟩ | ⟨_, _, _, _⟩ <;> omega
      unfold tj_LX at e
      have : p = r := by omega
      subst this
      omega
  have nY : ∀ j, j < 125 → ¬ j < tj_n r → tj_m M' (125 * r + j) = false := by
    intro j hj hn
    cases z : tj_m M' (125 * r + j) with
    | false => rfl
    | true =>
      obtain ⟨p, x, hp, hx, e, _⟩ := tj_PM_in hl ((tj_m_P hY (by omega)).mp z)
      have hp' : tj_n p ≤ 125 := by rcases tj_on p with ⟨_, _, _, _⟩ | ⟨_, _, _, _⟩ <;> omega
      unfold tj_LY at e
      have : p = r := by omega
      subst this
      omega
  have z1 : tj_k (tj_m M) (156 * r) (tj_o r) = 0 := tj_k_none (fun j h1 h2 => by
    have := nX (j - 156 * r) (by omega) (by omega)
    rw [show 156 * r + (j - 156 * r) = j by omega] at this
    exact this)
  have z2 : tj_k (tj_m M) (156 * r + tj_o r + tj_n r) (156 - tj_o r - tj_n r) = 0 := tj_k_none (fun j h1 h2 => by
    have := nX (j - 156 * r) (by omega) (by omega)
    rw [show 156 * r + (j - 156 * r) = j by omega] at this
    exact this)
  have z3 : tj_k (tj_m M') (125 * r + tj_n r) (125 - tj_n r) = 0 := tj_k_none (fun j h1 h2 => by
    have := nY (j - 125 * r) (by omega) (by omega)
    rw [show 125 * r + (j - 125 * r) = j by omega] at this
    exact this)
  have mid : tj_k (tj_m M) (156 * r + tj_o r) (tj_n r) = tj_k (tj_m M') (125 * r) (tj_n r) := by
    refine tj_k_sh (fun j hj => tj_b_ext ?_)
    rw [Nat.add_assoc]
    exact (tj_m_P (k := 156 * r + (tj_o r + j)) hX (by omega)).trans ((tj_match hr hl j hj).trans (tj_m_P (k := 125 * r + j) hY (by omega)).symm)
  omega
theorem tj_3 (f : Nat → Bool) (w : Nat) : tj_k f 0 (3 * w) = tj_k f (w * 0) w + tj_k f (w * 1) w + tj_k f (w * 2) w := by
  have a := tj_k_add f 0 w (w + w)
  have b := tj_k_add f (0 + w) w w
  rw [show 3 * w = w + (w + w) by omega, a, b, Nat.mul_zero, Nat.mul_one, Nat.zero_add, show w + w = w * 2 by omega]
  omega
/-- idle -/
theorem tj_idle {M M' : Nat → Int32} {th : Nat → Bool} {rl vr : Nat → Nat} {b n c : Nat} (hl : ∀ i, i < n → rl (b + i) < 3) (hX : tj_B M (tj_PM tj_LX th rl vr b n c) 468) (hY : tj_B M' (tj_PM tj_LY th rl vr b n c) 375) :
    tj_k (fun k => th k && !tj_m M' k) 0 375 + tj_k (tj_m M) 0 468 = tj_k th 0 125 + tj_k th 125 125 + tj_k th 250 125 := by
  have a := tj_3 (tj_m M) 156
  have b' := tj_3 (tj_m M') 125
  have c' := tj_3 th 125
  have d0 := tj_mk_r (r := 0) (by decide) hl hX hY
  have d1 := tj_mk_r (r := 1) (by decide) hl hX hY
  have d2 := tj_mk_r (r := 2) (by decide) hl hX hY
  have e : tj_k (tj_m M) 0 468 = tj_k (tj_m M') 0 375 := by
    have a' : tj_k (tj_m M) 0 468 = tj_k (tj_m M) (156 * 0) 156 + tj_k (tj_m M) (156 * 1) 156 + tj_k (tj_m M) (156 * 2) 156 := a
    have b'' : tj_k (tj_m M') 0 375 = tj_k (tj_m M') (125 * 0) 125 + tj_k (tj_m M') (125 * 1) 125 + tj_k (tj_m M') (125 * 2) 125 := b'
    rw [a', b'', d0, d1, d2]
  rw [e]
  have f := tj_k_diff (f := th) (g := tj_m M') (lo := 0) (n := 375) (fun j h1 h2 hm => by
    obtain ⟨p, x, _, _, e', t⟩ := tj_PM_in hl ((tj_m_P hY (by omega)).mp hm)
    rw [← e']
    exact t)
  rw [f]
  exact c'
/-! scans over marks -/
def tj_fa (A : Nat → Int32) (k : Int32) : Nat → Nat → Nat → Int32
  | 0, _, _ => -3
  | d + 1, a, b => if A a = 0 then tj_fa A k d (a + 1) b else if nI b = k then nI a else tj_fa A k d (a + 1) (b + 1)
theorem tj_fa_eq {A A' : Nat → Int32} {k : Int32} {N : Nat} (h : ∀ a, a < N → A a = A' a) : ∀ d a b, a + d ≤ N → tj_fa A k d a b = tj_fa A' k d a b := by
  intro d
  induction d with
  | zero => intro a b _; rfl
  | succ d ih =>
    intro a b hd
    unfold tj_fa
    rw [h a (by omega), ih (a + 1) b (by omega), ih (a + 1) (b + 1) (by omega)]
theorem tj_fa_neg {A : Nat → Int32} {k : Int32} (hk : k < 0) : ∀ d a b, b + d < 2 ^ 31 → tj_fa A k d a b = -3 := by
  intro d
  induction d with
  | zero => intro a b _; rfl
  | succ d ih =>
    intro a b hd
    have : ¬ nI b = k := by
      intro e
      rw [← e] at hk
      exact nI_pos (n := b) (by omega) hk
    unfold tj_fa
    rw [ih (a + 1) b (by omega), ih (a + 1) (b + 1) (by omega), if_neg this]
    split <;> rfl
