/-! arrays of numbers, of marks; the relation -/
def tj_A (f : Nat → Nat) : Nat → Int32 := fun j => nI (f j)
def tj_u (f : Nat → Nat) (k x : Nat) : Nat → Nat := fun j => if j = k then x else f j
theorem tj_u_s {f : Nat → Nat} {k x : Nat} : tj_u f k x k = x := if_pos rfl
theorem tj_u_n {f : Nat → Nat} {k x j : Nat} (h : j ≠ k) : tj_u f k x j = f j := if_neg h
theorem tj_A_u (f : Nat → Nat) (k x : Nat) : upd (tj_A f) k (nI x) = tj_A (tj_u f k x) := by
  funext j
  unfold upd tj_A tj_u
  split <;> rfl
theorem tj_A_0 : (fun _ => 0 : Nat → Int32) = tj_A (fun _ => 0) := rfl
def tj_T (f : Nat → Bool) : Nat → Int32 := fun j => if f j = true then 1 else 0
theorem tj_T_u (f : Nat → Bool) (k : Nat) : upd (tj_T f) k 1 = tj_T (tj_p f k true) := by
  funext j
  unfold upd tj_T tj_p
  by_cases e : j = k
  · rw [if_pos e, if_pos e]; rfl
  · rw [if_neg e, if_neg e]
theorem tj_T_c (f : Nat → Bool) (k : Nat) : upd (tj_T f) k 0 = tj_T (tj_p f k false) := by
  funext j
  unfold upd tj_T tj_p
  by_cases e : j = k
  · rw [if_pos e, if_pos e]; rfl
  · rw [if_neg e, if_neg e]
theorem tj_T_0 : (fun _ => 0 : Nat → Int32) = tj_T (fun _ => false) := rfl
theorem tj_T_f {f : Nat → Bool} {k : Nat} : tj_T f k = 0 ↔ f k = false := by
  unfold tj_T
  cases f k <;> simp
/-- atoms as both sides keep them, and the digits apart -/
def tj_At (rl vr : Nat → Nat) (va : Nat → Int32) : Prop := ∀ p, p < 8 → rl p < 3 ∧ vr p < tj_n (rl p) ∧ ∀ c, c < tj_w (rl p) → va (3 * p + c) = nI (tj_c (rl p) (vr p) c)
def tj_I (th : Nat → Bool) (cn ak rl vr : Nat → Nat) (lv : Nat) (B va : Nat → Int32) : Prop :=
  tj_Bl B th ∧ (∀ r, r < 3 → tj_k th (125 * r) 125 ≤ 16) ∧ (∀ q, q < 2 → cn q ≤ 4) ∧ (∀ q, q < 2 → ak q < 32) ∧ tj_At rl vr va ∧ lv < 3
theorem tj_At_0 : tj_At (fun _ => 0) (fun _ => 0) (fun _ => 0) := by
  intro p _
  refine ⟨by decide, by decide, fun c _ => ?_⟩
  show (0 : Int32) = nI (0 / 5 ^ (tj_w 0 - 1 - c) % 5)
  rw [Nat.zero_div]
  rfl
theorem tj_Bl_0 : tj_Bl (fun _ => 0) (fun _ => false) := by
  have z : ∀ lo n, (0 : Int32) = nI (tj_k (fun _ => false) lo n) := fun lo n => by rw [tj_k_none (fun _ _ _ => rfl)]; rfl
  exact ⟨⟨fun j _ => z _ _, fun j _ => z _ _, fun j _ => z _ _, z _ _⟩, fun r _ => ⟨fun j _ => z _ _, fun j _ => z _ _, z _ _⟩, fun r _ j _ _ => rfl⟩
theorem tj_I_0 : tj_I (fun _ => false) (fun _ => 0) (fun _ => 0) (fun _ => 0) (fun _ => 0) 2 (fun _ => 0) (fun _ => 0) :=
  ⟨tj_Bl_0, fun r _ => by rw [tj_k_none (fun _ _ _ => rfl)]; omega, fun _ _ => by decide, fun _ _ => by decide, tj_At_0, by decide⟩
