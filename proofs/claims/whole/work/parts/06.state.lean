/-! arrays of numbers, of marks; the relation -/
def tj_A (f : Nat → Nat) : Nat → Int32 := fun j => nI (f j)
def tj_u (f : Nat → Nat) (k x : Nat) : Nat → Nat := fun j => if j = k then x else f j
theorem tj_u_s {f : Nat → Nat} {k x : Nat} : tj_u f k x k = x := if_pos rfl
theorem tj_u_n {f : Nat → Nat} {k x j : Nat} (h : j ≠ k) : tj_u f k x j = f j := if_neg h
theorem tj_A_u (f : Nat → Nat) (k x : Nat) : upd (tj_A f) k (nI x) = tj_A (tj_u f k x) := by
  funext j
  unfold upd tj_A tj_u
  split <;> rfl
theorem tj_A_0 : (fun _ => 0 : Nat → Int32) = tj_A (fun _ => 0) := rfl
def tj_T (f : Nat → Bool) : Nat → Int32 := fun j => if f j = true then 1 else 0
theorem tj_T_u (f : Nat → Bool) (k : Nat) : upd (tj_T f) k 1 = tj_T (tj_p f k true) := by
  funext j
  unfold upd tj_T tj_p
  by_cases e : j = k
  · rw [if_pos e, if_pos e]; rfl
  · rw [if_neg e, if_neg e]
theorem tj_T_c (f : Nat → Bool) (k : Nat) : upd (tj_T f) k 0 = tj_T (tj_p f k false) := by
  funext j
  unfold upd tj_T tj_p
  by_cases e : j = k
  · rw [if_pos e, if_pos e]; rfl
  · rw [if_neg e, if_neg e]
theorem tj_T_0 : (fun _ => 0 : Nat → Int32) = tj_T (fun _ => false) := rfl
theorem tj_T_f {f : Nat → Bool} {k : Nat} : tj_T f k = 0 ↔ f k = false := by
  unfold tj_T
  cases f k <;> simp
/-- atoms as both sides keep them, and the digits apart -/
def tj_At (rl vr : Nat → Nat) (va : Nat → Int32) : Prop := ∀ p, p < 8 → rl p < 3 ∧ vr p < tj_n (rl p) ∧ ∀ c, c < tj_w (rl p) → va (3 * p + c) = nI (tj_c (rl p) (vr p) c)
def tj_I (th : Nat → Bool) (cn ak rl vr : Nat → Nat) (lv : Nat) (B va : Nat → Int32) : Prop :=
  tj_Bl B th ∧ (∀ r, r < 3 → tj_k th (125 * r) 125 ≤ 16) ∧ (∀ q, q < 2 → cn q ≤ 4) ∧ (∀ q, q < 2 → ak q < 32) ∧ tj_At rl vr va ∧ lv < 3
theorem tj_At_0 : tj_At (fun _ => 0) (fun _ => 0) (fun _ => 0) := by
  intro p _
  refine ⟨(by decide : 0 < 3), (by decide : 0 < tj_n 0), fun c _ => ?_⟩
  show (0 : Int32) = nI (0 / 5 ^ (tj_w 0 - 1 - c) % 5)
  rw [Nat.zero_div]
  rfl
theorem tj_Bl_0 : tj_Bl (fun _ => 0) (fun _ => false) := by
  have z : ∀ lo n, (0 : Int32) = nI (tj_k (fun _ => false) lo n) := fun lo n => by rw [tj_k_none (fun _ _ _ => rfl)]; rfl
  exact ⟨⟨fun j _ => z _ _, fun j _ => z _ _, fun j _ => z _ _, z _ _⟩, fun r _ => ⟨fun j _ => z _ _, fun j _ => z _ _, z _ _⟩, fun r _ j _ _ => rfl⟩
theorem tj_I_0 : tj_I (fun _ => false) (fun _ => 0) (fun _ => 0) (fun _ => 0) (fun _ => 0) 2 (fun _ => 0) (fun _ => 0) :=
  ⟨tj_Bl_0, fun r _ => by rw [tj_k_none (fun _ _ _ => rfl)]; omega, fun _ _ => (by decide : 0 ≤ 4), fun _ _ => (by decide : 0 < 32), tj_At_0, by decide⟩
/-! sums and digits as the programs reckon them -/
def tj_zs (s : Nat) : Nat → Nat
  | 0 => 0
  | n + 1 => tj_zs s n + s / 2 ^ n % 2
theorem tj_zs_le (s : Nat) : ∀ n, tj_zs s n ≤ n := by
  intro n
  induction n with
  | zero => exact Nat.le_refl 0
  | succ n ih =>
    have : s / 2 ^ n % 2 < 2 := Nat.mod_lt _ (by decide)
    unfold tj_zs
    omega
theorem tj_zs_4 (s : Nat) : tj_zs s 4 = tj_s s := by
  show 0 + s / 1 % 2 + s / 2 % 2 + s / 4 % 2 + s / 8 % 2 = s % 2 + s / 2 % 2 + s / 4 % 2 + s / 8 % 2
  omega
theorem tj_zs_5 {s : Nat} (h : s < 16) : tj_zs s 5 = tj_s s := by
  show 0 + s / 1 % 2 + s / 2 % 2 + s / 4 % 2 + s / 8 % 2 + s / 16 % 2 = s % 2 + s / 2 % 2 + s / 4 % 2 + s / 8 % 2
  omega
theorem tj_zs_t {s n : Nat} (h : s.testBit n = true) : tj_zs s (n + 1) = tj_zs s n + 1 := by
  rw [Nat.testBit_eq_decide_div_mod_eq, decide_eq_true_eq] at h
  show tj_zs s n + s / 2 ^ n % 2 = _
  rw [h]
theorem tj_zs_f {s n : Nat} (h : s.testBit n = false) : tj_zs s (n + 1) = tj_zs s n := by
  rw [Nat.testBit_eq_decide_div_mod_eq, decide_eq_false_iff_not] at h
  have : s / 2 ^ n % 2 < 2 := Nat.mod_lt _ (by decide)
  show tj_zs s n + s / 2 ^ n % 2 = _
  omega
def tj_ca (g : Nat → Nat) (v : Nat) : Nat → Nat
  | 0 => 0
  | w + 1 => tj_ca g v w * 5 + (if w ≤ v then g w else 0) + (if w = v then 1 else 0)
theorem tj_ca_x {c v : Nat} (hv : v ≤ 4) (h : c < 3125) : tj_ca (tj_g c) v 5 = tj_x c v := by
  have g0 : tj_g c 0 = c / 625 % 5 := rfl
  have g1 : tj_g c 1 = c / 125 % 5 := rfl
  have g2 : tj_g c 2 = c / 25 % 5 := rfl
  have g3 : tj_g c 3 = c / 5 % 5 := rfl
  have g4 : tj_g c 4 = c / 1 % 5 := rfl
  have : v = 0 ∨ v = 1 ∨ v = 2 ∨ v = 3 ∨ v = 4 := by omega
  rcases this with rfl | rfl | rfl | rfl | rfl
  · show ((((0 * 5 + tj_g c 0 + 1) * 5 + 0 + 0) * 5 + 0 + 0) * 5 + 0 + 0) * 5 + 0 + 0 = (c / 625 + 1) * 625
    omega
  · show ((((0 * 5 + tj_g c 0 + 0) * 5 + tj_g c 1 + 1) * 5 + 0 + 0) * 5 + 0 + 0) * 5 + 0 + 0 = (c / 125 + 1) * 125
    omega
  · show ((((0 * 5 + tj_g c 0 + 0) * 5 + tj_g c 1 + 0) * 5 + tj_g c 2 + 1) * 5 + 0 + 0) * 5 + 0 + 0 = (c / 25 + 1) * 25
    omega
  · show ((((0 * 5 + tj_g c 0 + 0) * 5 + tj_g c 1 + 0) * 5 + tj_g c 2 + 0) * 5 + tj_g c 3 + 1) * 5 + 0 + 0 = (c / 5 + 1) * 5
    omega
  · show ((((0 * 5 + tj_g c 0 + 0) * 5 + tj_g c 1 + 0) * 5 + tj_g c 2 + 0) * 5 + tj_g c 3 + 0) * 5 + tj_g c 4 + 1 = (c / 1 + 1) * 1
    omega
theorem tj_ca_lt {g : Nat → Nat} {v : Nat} (h : ∀ w, w < 5 → g w < 5) : ∀ w, w ≤ 5 → tj_ca g v w + 2 ≤ 3 * 5 ^ w := by
  intro w
  induction w with
  | zero => intro _; show 0 + 2 ≤ 3 * 1; omega
  | succ w ih =>
    intro hw
    have i := ih (by omega)
    have := h w (by omega)
    have x : (if w ≤ v then g w else 0) < 5 := by split <;> omega
    have y : (if w = v then 1 else 0) ≤ 1 := by split <;> omega
    show tj_ca g v w * 5 + (if w ≤ v then g w else 0) + (if w = v then 1 else 0) + 2 ≤ _
    rw [Nat.pow_succ]
    generalize (if w ≤ v then g w else 0) = x1 at x ⊢
    generalize (if w = v then 1 else 0) = y1 at y ⊢
    omega
/-- the marks agree: the counts agree -/
theorem tj_m_eq {A A' : Nat → Int32} {N : Nat} (h : ∀ k, k < N → A k = A' k) (P : Nat → Bool) : tj_k (fun k => tj_m A k && P k) 0 N = tj_k (fun k => tj_m A' k && P k) 0 N := by
  refine tj_k_eq (fun j _ hj => ?_)
  unfold tj_m
  rw [h j (by omega)]
