/-! images of a renaming; what a tree-like question loses -/
theorem tj_s_or : ∀ x, x < 16 → ∀ y, y < 16 → tj_s (x ||| y) ≤ tj_s x + tj_s y := by decide +kernel
theorem tj_s_sub : ∀ x, x < 16 → ∀ y, y < 16 → (∀ j, j < 4 → x.testBit j = true → y.testBit j = true) → tj_s x ≤ tj_s y := by decide +kernel
theorem tj_s_one : ∀ b, b < 4 → tj_s (2 ^ b) = 1 ∧ 2 ^ b < 16 := by decide +kernel
theorem tj_or_lt {x y : Nat} (hx : x < 16) (hy : y < 16) : x ||| y < 16 := Nat.or_lt_two_pow (n := 4) hx hy
def tj_F1 (fi : Nat → Nat) (A b : Nat) : Nat := if A.testBit b = true then 2 ^ (fi b) else 0
def tj_F (fi : Nat → Nat) (A : Nat) : Nat := ((tj_F1 fi A 0 ||| tj_F1 fi A 1) ||| tj_F1 fi A 2) ||| tj_F1 fi A 3
def tj_z (A b : Nat) : Nat := if A.testBit b = true then 1 else 0
theorem tj_s_z : ∀ A, A < 16 → tj_s A = tj_z A 0 + tj_z A 1 + tj_z A 2 + tj_z A 3 := by decide +kernel
theorem tj_F1_s {fi : Nat → Nat} {A b : Nat} (h : fi b < 4) : tj_F1 fi A b < 16 ∧ tj_s (tj_F1 fi A b) ≤ tj_z A b := by
  unfold tj_F1 tj_z
  split
  · obtain ⟨a, c⟩ := tj_s_one _ h
    exact ⟨c, by omega⟩
  · exact ⟨by decide, by decide⟩
theorem tj_F_s {fi : Nat → Nat} {A : Nat} (hA : A < 16) (h : ∀ b, b < 4 → fi b < 4) : tj_F fi A < 16 ∧ tj_s (tj_F fi A) ≤ tj_s A := by
  obtain ⟨a0, b0⟩ := tj_F1_s (A := A) (h 0 (by decide))
  obtain ⟨a1, b1⟩ := tj_F1_s (A := A) (h 1 (by decide))
  obtain ⟨a2, b2⟩ := tj_F1_s (A := A) (h 2 (by decide))
  obtain ⟨a3, b3⟩ := tj_F1_s (A := A) (h 3 (by decide))
  have c1 := tj_s_or _ a0 _ a1
  have l1 := tj_or_lt a0 a1
  have c2 := tj_s_or _ l1 _ a2
  have l2 := tj_or_lt l1 a2
  have c3 := tj_s_or _ l2 _ a3
  refine ⟨tj_or_lt l2 a3, ?_⟩
  rw [tj_s_z A hA]
  unfold tj_F
  omega
theorem tj_F_mem {fi : Nat → Nat} {A b : Nat} (hb : b < 4) (h : A.testBit b = true) : (tj_F fi A).testBit (fi b) = true := by
  have e : (tj_F1 fi A b).testBit (fi b) = true := by unfold tj_F1; rw [if_pos h]; exact Nat.testBit_two_pow_self
  unfold tj_F
  rw [Nat.testBit_or, Nat.testBit_or, Nat.testBit_or]
  have : b = 0 ∨ b = 1 ∨ b = 2 ∨ b = 3 := by omega
  rcases this with rfl | rfl | rfl | rfl <;> rw [e] <;> simp
/-- every member of R is what fi makes of a member of A: R isn't larger than A -/
theorem tj_img {fi : Nat → Nat} {A R : Nat} (hA : A < 16) (hR : R < 16) (h : ∀ b, b < 4 → fi b < 4) (hm : ∀ j, j < 4 → R.testBit j = true → ∃ b, b < 4 ∧ A.testBit b = true ∧ fi b = j) : tj_s R ≤ tj_s A := by
  obtain ⟨l, c⟩ := tj_F_s hA h
  refine Nat.le_trans (tj_s_sub R hR _ l (fun j hj z => ?_)) c
  obtain ⟨b, hb, ha, e⟩ := hm j hj z
  rw [← e]
  exact tj_F_mem hb ha
/-- the first of n places that hold (r, x) -/
def tj_Fst (rl vr : Nat → Nat) (b n r x j : Nat) : Prop := j < n ∧ (rl (b + j) = r ∧ vr (b + j) = x) ∧ ∀ i, i < j → ¬ (rl (b + i) = r ∧ vr (b + i) = x)
def tj_fix (a : Nat) (g : Nat → Nat) : Prop := ∀ v, v < 5 → a.testBit v = true → g v = v
/-- a renaming of n atoms from place b into those of the set A of m atoms from place d -/
def tj_Into (rl vr : Nat → Nat) (a : Nat) (g : Nat → Nat) (b n d m A : Nat) : Prop :=
  tj_fix a g ∧ ∀ i, i < n → ∃ j, j < m ∧ A.testBit j = true ∧ rl (d + j) = rl (b + i) ∧ vr (d + j) = tj_row (rl (b + i)) (vr (b + i)) g
/-- the set of the first atoms that the n atoms become -/
def tj_Im (rl vr : Nat → Nat) (g : Nat → Nat) (b n d m R : Nat) : Prop :=
  (∀ i, i < n → ∃ j, R.testBit j = true ∧ tj_Fst rl vr d m (rl (b + i)) (tj_row (rl (b + i)) (vr (b + i)) g) j) ∧
  (∀ j, R.testBit j = true → ∃ i, i < n ∧ tj_Fst rl vr d m (rl (b + i)) (tj_row (rl (b + i)) (vr (b + i)) g) j)
theorem tj_Fst_u {rl vr : Nat → Nat} {b n r x j j' : Nat} (h : tj_Fst rl vr b n r x j) (h' : tj_Fst rl vr b n r x j') : j = j' := by
  rcases Nat.lt_trichotomy j j' with z | z | z
  · exact absurd h.2.1 (h'.2.2 j z)
  · exact z
  · exact absurd h'.2.1 (h.2.2 j' z)
theorem tj_Fst_ex {rl vr : Nat → Nat} {b n r x i : Nat} (hi : i < n) (h : rl (b + i) = r ∧ vr (b + i) = x) : ∃ j, j ≤ i ∧ tj_Fst rl vr b n r x j := by
  obtain ⟨j, hj, hl⟩ := pk_least (fun j => rl (b + j) = r ∧ vr (b + j) = x) ⟨i, h⟩
  have : j ≤ i := by
    rcases Nat.lt_or_ge i j with z | z
    · exact absurd h (hl i z)
    · exact z
  exact ⟨j, this, by omega, hj, hl⟩
theorem tj_Im_lt {rl vr : Nat → Nat} {g : Nat → Nat} {b n d m R : Nat} (h : tj_Im rl vr g b n d m R) : R < 2 ^ m := by
  apply Nat.lt_pow_two_of_testBit
  intro i hi
  cases e : R.testBit i with
  | false => rfl
  | true =>
    obtain ⟨k, _, hf⟩ := h.2 i e
    exact absurd hf.1 (by omega)
/-- the image of a renaming is no larger than a set that it leads into -/
theorem tj_small_le {rl vr : Nat → Nat} {g : Nat → Nat} {a b n m A R : Nat} (hm : m ≤ 4) (hA : A < 16) (h : tj_Into rl vr a g b n b m A) (hi : tj_Im rl vr g b n b m R) : tj_s R ≤ tj_s A := by
  have hc : ∀ x : Nat, ∃ y : Nat, x < m → tj_Fst rl vr b m (rl (b + x)) (vr (b + x)) y := by
    intro x
    by_cases hx : x < m
    · obtain ⟨j, _, hf⟩ := tj_Fst_ex hx (⟨rfl, rfl⟩ : rl (b + x) = rl (b + x) ∧ vr (b + x) = vr (b + x))
      exact ⟨j, fun _ => hf⟩
    · exact ⟨0, fun z => absurd z hx⟩
  obtain ⟨fi, hfi⟩ := Classical.axiomOfChoice hc
  have hl : ∀ x, x < 4 → (if x < m then fi x else 0) < 4 := by
    intro x hx
    split
    · have := (hfi x (by assumption)).1
      omega
    · decide
  have hR : R < 16 := Nat.lt_of_lt_of_le (tj_Im_lt hi) (by
    have := Nat.pow_le_pow_right (n := 2) (by decide) hm
    exact this)
  refine tj_img (fi := fun x => if x < m then fi x else 0) hA hR hl (fun j _ z => ?_)
  obtain ⟨i, hn, hf⟩ := hi.2 j z
  obtain ⟨k, hk, ha, e1, e2⟩ := h.2 i hn
  refine ⟨k, by omega, ha, ?_⟩
  show (if k < m then fi k else 0) = j
  rw [if_pos hk]
  have q := hfi k hk
  rw [e1, e2] at q
  exact tj_Fst_u q hf
/-- the image of a renaming: a set that it leads into, and whole -/
theorem tj_Im_into {rl vr : Nat → Nat} {g : Nat → Nat} {a b n d m R : Nat} (hf : tj_fix a g) (hi : tj_Im rl vr g b n d m R) : tj_Into rl vr a g b n d m R := by
  refine ⟨hf, fun i hn => ?_⟩
  obtain ⟨j, hj, h1, ⟨h2, h3⟩, _⟩ := hi.1 i hn
  exact ⟨j, h1, hj, h2, h3⟩
theorem tj_Im_whole {rl vr : Nat → Nat} {g : Nat → Nat} {a b n R : Nat} (h5 : ∀ v, v < 5 → g v < 5) (hf : tj_fix a g) (hi : tj_Im rl vr g b n b n R)
    (hw : ∀ v, v < 5 → a.testBit v = true → ∃ i, i < n ∧ (tj_so (rl (b + i)) (vr (b + i))).testBit v = true) :
    ∀ v, v < 5 → a.testBit v = true → (tj_vo (fun i => tj_so (rl (b + i)) (vr (b + i))) R n).testBit v = true := by
  intro v hv ha
  obtain ⟨i, hn, hb⟩ := hw v hv ha
  obtain ⟨j, hj, h1, ⟨h2, h3⟩, _⟩ := hi.1 i hn
  rw [tj_vo_b]
  refine ⟨j, h1, hj, ?_⟩
  obtain ⟨c, hc, e⟩ := tj_sp_b.mp hb
  show (tj_so (rl (b + j)) (vr (b + j))).testBit v = true
  rw [h2, h3]
  refine tj_sp_b.mpr ⟨c, hc, ?_⟩
  rw [tj_c_row h5 hc, e]
  exact hf v hv ha
/-! tree-like -/
def tj_SY (H : Nat → Nat → Prop) (s t : Nat) : Prop :=
  (∃ i, i < 4 ∧ s.testBit i = true ∧ H s i ∧ (∀ j, j < i → s.testBit j = true → ¬ H s j) ∧ t = tj_mi s (2 ^ i)) ∨ ((∀ i, i < 4 → s.testBit i = true → ¬ H s i) ∧ t = s)
def tj_HX (H : Nat → Nat → Prop) (s i : Nat) : Prop := tj_mi s (2 ^ i) = 0 ∨ H s i
def tj_chn (R : Nat → Nat → Prop) : Nat → Nat → Nat → Prop
  | 0, s, e => e = s
  | n + 1, s, e => ∃ m, R s m ∧ tj_chn R n m e
theorem tj_SY_u {H : Nat → Nat → Prop} {s a b : Nat} (h : tj_SY H s a) (h' : tj_SY H s b) : a = b := by
  rcases h with ⟨i, hi, bi, Hi, li, ei⟩ | ⟨n, e⟩
  · rcases h' with ⟨j, hj, bj, Hj, lj, ej⟩ | ⟨n', e'⟩
    · rcases Nat.lt_trichotomy i j with z | z | z
      · exact absurd Hi (lj i z bi)
      · rw [ei, ej, z]
      · exact absurd Hj (li j z bj)
    · exact absurd Hi (n' i hi bi)
  · rcases h' with ⟨j, hj, bj, Hj, lj, ej⟩ | ⟨n', e'⟩
    · exact absurd Hj (n j hj bj)
    · rw [e, e']
theorem tj_SY_c {H G : Nat → Nat → Prop} {s t : Nat} (h : ∀ i, i < 4 → s.testBit i = true → (G s i ↔ H s i)) (g : tj_SY G s t) : tj_SY H s t := by
  rcases g with ⟨i, hi, bi, Hi, li, ei⟩ | ⟨n, e⟩
  · exact Or.inl ⟨i, hi, bi, (h i hi bi).mp Hi, fun j hj bj z => li j hj bj ((h j (by omega) bj).mpr z), ei⟩
  · exact Or.inr ⟨fun i hi bi z => n i hi bi ((h i hi bi).mpr z), e⟩
theorem tj_chn_fix {R : Nat → Nat → Prop} {s : Nat} (h : ∀ t, R s t → t = s) : ∀ n e, tj_chn R n s e → e = s := by
  intro n
  induction n with
  | zero => exact fun e z => z
  | succ n ih =>
    rintro e ⟨m, h1, h2⟩
    have := h m h1
    subst this
    exact ih e h2
theorem tj_tree {H : Nat → Nat → Prop} (hH : ∀ s i, H s i → tj_mi s (2 ^ i) ≠ 0) : ∀ n s eX eY, s < 16 → tj_s s ≤ n → tj_chn (tj_SY (tj_HX H)) n s eX → tj_chn (tj_SY H) n s eY → (eX = 0 ↔ tj_s eY ≤ 1) := by
  have z0 : ∀ G : Nat → Nat → Prop, ∀ t, tj_SY G 0 t → t = 0 := by
    intro G t h
    rcases h with ⟨i, hi, bi, _⟩ | ⟨_, e⟩
    · rw [Nat.zero_testBit] at bi; exact absurd bi (by decide)
    · exact e
  intro n
  induction n with
  | zero =>
    intro s eX eY hs hn hx hy
    have e : s = 0 := (tj_s_0 s hs).mp (by omega)
    subst e
    have hx' : eX = 0 := hx
    have hy' : eY = 0 := hy
    subst hx' hy'
    exact ⟨fun _ => by decide, fun _ => rfl⟩
  | succ n ih =>
    intro s eX eY hs hn hx hy
    obtain ⟨mX, x1, x2⟩ := hx
    obtain ⟨mY, y1, y2⟩ := hy
    by_cases hc : tj_s s ≤ 1
    · have fY : ∀ t, tj_SY H s t → t = s := by
        intro t h
        rcases h with ⟨i, hi, bi, Hi, _⟩ | ⟨_, e⟩
        · have := tj_mi_s s hs i hi bi
          exact absurd ((tj_s_0 _ (tj_mi_lt hs)).mp (by omega)) (hH s i Hi)
        · exact e
      have eY' : eY = s := by
        have := fY mY y1
        subst this
        exact tj_chn_fix fY n eY y2
      have fX : mX = 0 := by
        rcases x1 with ⟨i, hi, bi, _, _, e⟩ | ⟨no, e⟩
        · rw [e]
          have := tj_mi_s s hs i hi bi
          exact (tj_s_0 _ (tj_mi_lt hs)).mp (by omega)
        · rw [e]
          rcases Nat.eq_zero_or_pos s with z | z
          · exact z
          · obtain ⟨i, hi, bi⟩ := tj_s_some s hs (by omega)
            have := tj_mi_s s hs i hi bi
            exact absurd (Or.inl ((tj_s_0 _ (tj_mi_lt hs)).mp (by omega))) (no i hi bi)
      subst fX eY'
      have : eX = 0 := tj_chn_fix (z0 _) n eX x2
      exact ⟨fun _ => hc, fun _ => this⟩
    · have hq : ∀ i, i < 4 → s.testBit i = true → (tj_HX H s i ↔ H s i) := by
        intro i hi bi
        refine ⟨fun z => z.elim (fun z => ?_) id, Or.inr⟩
        have := tj_mi_s s hs i hi bi
        rw [z] at this
        exact absurd this (by show ¬ (0 + 1 = tj_s s); omega)
      have xy : ∀ t, tj_SY (tj_HX H) s t → tj_SY H s t := fun t => tj_SY_c hq
      have em : mX = mY := tj_SY_u (xy _ x1) y1
      subst em
      rcases y1 with ⟨i, hi, bi, Hi, li, e⟩ | ⟨no, e⟩
      · have := tj_mi_s s hs i hi bi
        subst e
        exact ih _ eX eY (tj_mi_lt hs) (by omega) x2 y2
      · have u : tj_SY H s s := Or.inr ⟨no, rfl⟩
        subst e
        have a := tj_chn_fix (fun t h => tj_SY_u (xy t h) u) n eX x2
        have b := tj_chn_fix (fun t h => tj_SY_u h u) n eY y2
        subst a b
        refine ⟨fun z => ?_, fun z => absurd z hc⟩
        subst z
        exact absurd (by decide) hc
