/-! X: tree-like, scans, least -/
def tj_H (rl vr : Nat → Nat) (q s i : Nat) : Prop := ∃ j, j < 4 ∧ (tj_mi s (2 ^ i)).testBit j = true ∧ tj_mi (tj_so (rl (4 * q + i)) (vr (4 * q + i)) &&& tj_vo (fun i => tj_so (rl (4 * q + i)) (vr (4 * q + i))) (tj_mi s (2 ^ i)) 4) (tj_so (rl (4 * q + j)) (vr (4 * q + j))) = 0
theorem tj_and_lt {a b n : Nat} (h : a < n) : a &&& b < n := Nat.lt_of_le_of_lt Nat.and_le_left h
theorem tj_2p : ∀ i, i < 4 → 2 ^ i < 32 := by decide
theorem tj_k0_t {f : Nat → Bool} {a : Nat} (h : f a = true) : tj_k f 0 (a + 1) = tj_k f 0 a + 1 := by
  show tj_k f 0 a + (if f (0 + a) = true then 1 else 0) = _
  rw [Nat.zero_add, if_pos h]
theorem tj_k0_f {f : Nat → Bool} {a : Nat} (h : ¬ f a = true) : tj_k f 0 (a + 1) = tj_k f 0 a := by
  show tj_k f 0 a + (if f (0 + a) = true then 1 else 0) = _
  rw [Nat.zero_add, if_neg h, Nat.add_zero]
theorem tj_SY_lt {H : Nat → Nat → Prop} {s t : Nat} (hs : s < 16) (h : tj_SY H s t) : t < 16 := by
  rcases h with ⟨i, _, _, _, _, e⟩ | ⟨_, e⟩
  · rw [e]; exact tj_mi_lt hs
  · rw [e]; exact hs
section
variable {post : Int32 → Prop} {L : Int32} {B W G A M : Nat → Int32} {cn ak rl vr : Nat → Nat}
theorem xx_hang_l {q o sh : Nat} (hq : q < 2) (ho : o < 16) (hs : sh < 32) (ha : tj_At rl vr W) (h1 : (∃ j, j < 4 ∧ o.testBit j = true ∧ tj_mi sh (tj_so (rl (4 * q + j)) (vr (4 * q + j))) = 0) → post 1) (h0 : ¬ (∃ j, j < 4 ∧ o.testBit j = true ∧ tj_mi sh (tj_so (rl (4 * q + j)) (vr (4 * q + j))) = 0) → post 0) :
    ∀ n j, j ≤ 4 → 4 - j < n → (∀ i, i < j → ¬ (o.testBit i = true ∧ tj_mi sh (tj_so (rl (4 * q + i)) (vr (4 * q + i))) = 0)) → wX_hangsOnOne_24 post (nI q) (nI o) (nI sh) L B (tj_A cn) (tj_A ak) (tj_A rl) (tj_A vr) W G A M n (nI j) := by
  intro n
  induction n with
  | zero => intro j _ h; omega
  | succ n ih =>
    intro j k1 k2 hn
    rcases Nat.lt_or_ge j 4 with z | z
    · have nx : ¬ (o.testBit j = true ∧ tj_mi sh (tj_so (rl (4 * q + j)) (vr (4 * q + j))) = 0) → wX_hangsOnOne_24 post (nI q) (nI o) (nI sh) L B (tj_A cn) (tj_A ak) (tj_A rl) (tj_A vr) W G A M n (nI (j + 1)) := by
        intro hne
        refine ih (j + 1) (by omega) (by omega) (fun i hi => ?_)
        by_cases e : i = j
        · subst e; exact hne
        · exact hn i (by omega)
      refine br_f (nI_ge (b := 4) z (by decide)) (xx_has (by omega) (by omega) (fun hb => br_f (by decide) ?_) (fun hb => br_t rfl (nm_r (nI_1 j) (nx (fun y => by rw [hb] at y; exact absurd y.1 (by decide))))))
      rw [tj_shl (by omega)]
      refine xx_vo hq (Nat.lt_trans (tj_2p j z) (by decide)) ha ?_
      show (nI sh &&& (nI _ ^^^ (-1)) = 0 → post 1) ∧ (¬ nI sh &&& (nI _ ^^^ (-1)) = 0 → wX_hangsOnOne_24 post (nI q) (nI o) (nI sh) L B (tj_A cn) (tj_A ak) (tj_A rl) (tj_A vr) W G A M n (nI j + 1) |> fun R => ∀ y, y = nI j + 1 → wX_hangsOnOne_24 post (nI q) (nI o) (nI sh) L B (tj_A cn) (tj_A ak) (tj_A rl) (tj_A vr) W G A M n y)
      sorry
    · have e : j = 4 := by omega
      subst e
      exact br_t (by decide) (h0 (fun ⟨j, hj, y⟩ => hn j hj y))
end
