/-! X: small methods -/
theorem tj_e156 (r x : Nat) : nI r * 156 + nI x = nI (156 * r + x) := by rw [tj_mr_156, nI_add, Nat.mul_comm]
theorem tj_e4 (q i : Nat) : nI q * 4 + nI i = nI (4 * q + i) := by rw [tj_mr_4, nI_add, Nat.mul_comm]
theorem tj_e3 (p c : Nat) : nI p * 3 + nI c = nI (3 * p + c) := by rw [tj_mr_3, nI_add, Nat.mul_comm]
theorem tj_e125 (r k : Nat) : 125 * nI r + nI k = nI (125 * r + k) := by rw [tj_ml_125, nI_add]
theorem tj_f4 (q i : Nat) : 4 * nI q + nI i = nI (4 * q + i) := by rw [tj_ml_4, nI_add]
theorem tj_n2 {r : Nat} (hr : r < 3) (h : r ≠ 2) : ¬ nI r = 2 := fun z => h ((tj_eq_2 (by omega)).mp z)
section
variable {post : Int32 → Prop}
theorem xx_isQ {q : Nat} (hq : q < 2) (h : post 1) : wpX_isQuestion post (nI q) :=
  br_f (nI_pos (by omega)) (br_f (nI_ge (b := 2) hq (by decide)) h)
theorem xx_nQ {q : Int32} (hq : ∀ j, j < 2 → q ≠ nI j) (h : post 0) : wpX_isQuestion post q := by
  rcases pk_ix q (n := 2) (by decide) with z | z | ⟨j, hj, e⟩
  · exact br_t z h
  · exact br_c (fun _ => h) (fun _ => br_t z h)
  · exact absurd e (hq j hj)
theorem xx_isR {r : Nat} (hr : r < 3) (h : post 1) : wpX_isRelation post (nI r) :=
  br_f (nI_pos (by omega)) (br_f (nI_ge (b := 3) hr (by decide)) h)
theorem xx_nR {r : Int32} (hr : ∀ j, j < 3 → r ≠ nI j) (h : post 0) : wpX_isRelation post r := by
  rcases pk_ix r (n := 3) (by decide) with z | z | ⟨j, hj, e⟩
  · exact br_t z h
  · exact br_c (fun _ => h) (fun _ => br_t z h)
  · exact absurd e (hr j hj)
theorem xx_isRow {r row : Nat} (hr : r < 3) (hw : row < tj_n r) (h : post 1) : wpX_isRow post (nI r) (nI row) := by
  have hn : tj_n r ≤ 125 := by rcases tj_on r with ⟨_, _, _, _⟩ | ⟨_, _, _, _⟩ <;> omega
  unfold wpX_isRow
  refine xx_isR hr (br_f (by decide) (br_f (nI_pos (by omega)) ?_))
  rcases tj_on r with ⟨e, _, n, _⟩ | ⟨e, _, n, _⟩
  · subst e
    exact br_t rfl (br_f (nI_ge (b := 125) (by omega) (by decide)) h)
  · exact br_f (tj_n2 hr e) (br_f (nI_ge (b := 25) (by omega) (by decide)) h)
theorem xx_nRow {r row : Int32} (hn : ∀ a b, a < 3 → b < tj_n a → r = nI a → row ≠ nI b) (h : post 0) : wpX_isRow post r row := by
  unfold wpX_isRow
  by_cases hr : ∃ a, a < 3 ∧ r = nI a
  · obtain ⟨a, ha, e⟩ := hr
    subst e
    have h5 : tj_n a ≤ 125 := by rcases tj_on a with ⟨_, _, _, _⟩ | ⟨_, _, _, _⟩ <;> omega
    refine xx_isR ha (br_f (by decide) ?_)
    rcases pk_ix row (n := tj_n a) (by omega) with z | z | ⟨j, hj, e⟩
    · exact br_t z h
    · refine br_c (fun _ => h) (fun _ => ?_)
      rcases tj_on a with ⟨e, _, n, _⟩ | ⟨e, _, n, _⟩
      · rw [n] at z
        subst e
        exact br_t rfl (br_t z h)
      · rw [n] at z
        exact br_f (tj_n2 ha e) (br_t z h)
    · exact absurd e (hn a j ha hj rfl)
  · exact xx_nR (fun j hj e => hr ⟨j, hj, e⟩) (br_t rfl h)
theorem xx_lit {r row : Nat} (hr : r < 3) (h : post (nI (tj_o r + row))) : wpX_leafInTrie post (nI r) (nI row) := by
  rcases tj_on r with ⟨e, _, _, o⟩ | ⟨e, _, _, o⟩
  · subst e
    rw [o, ← tj_al_31] at h
    exact br_t rfl h
  · rw [o, ← tj_al_6] at h
    exact br_f (tj_n2 hr e) h
theorem xx_leaf {r row : Nat} (hr : r < 3) (h : post (nI (tj_LX r row))) : wpX_leaf post (nI r) (nI row) := by
  unfold wpX_leaf
  refine xx_lit hr ?_
  show post (nI r * 156 + nI (tj_o r + row))
  rw [tj_e156]
  exact h
theorem xx_cols {r : Nat} (hr : r < 3) (h : post (nI (tj_w r))) : wpX_columns post (nI r) := by
  rcases tj_on r with ⟨e, w, _, _⟩ | ⟨e, w, _, _⟩
  · rw [w] at h
    subst e
    exact br_t rfl h
  · rw [w] at h
    exact br_f (tj_n2 hr e) h
theorem xx_has {s m : Nat} (hs : s < 2 ^ 31) (hm : m < 32) (f : s.testBit m = true → post 1) (g : s.testBit m = false → post 0) : wpX_has post (nI s) (nI m) :=
  tj_hasP hs hm f g
theorem xx_size_l {s : Nat} (hs : s < 2 ^ 31) : ∀ n i, i ≤ 4 → 4 - i < n → post (nI (tj_zs s 4)) → wX_sizeOf_4 post (nI s) n (nI (tj_zs s i)) (nI i) := by
  intro n
  induction n with
  | zero => intro i _ h; omega
  | succ n ih =>
    intro i hi hn h
    rcases Nat.lt_or_ge i 4 with z | z
    · refine br_f (nI_ge (b := 4) z (by decide)) (nm_r (e' := nI (tj_zs s (i + 1))) ?_ (nm_r (nI_1 i) (ih (i + 1) (by omega) (by omega) h)))
      rw [tj_bitv hs (by omega), nI_add]
      rfl
    · have e : i = 4 := by omega
      subst e
      exact br_t (by decide) h
theorem xx_size {s : Nat} (hs : s < 16) (h : post (nI (tj_s s))) : wpX_sizeOf post (nI s) := by
  rw [← tj_zs_4] at h
  exact ⟨5, xx_size_l (by omega) 5 0 (by omega) (by omega) h⟩
theorem xx_dig_l {num place : Nat} (hn : num < 2 ^ 31) (hp : place < 2 ^ 31) : ∀ n p, p ≤ place → place - p < n → post (nI (num / 5 ^ place % 5)) → wX_digit_4 post (nI place) n (nI (num / 5 ^ p)) (nI p) := by
  have hb : ∀ p, num / 5 ^ p < 2 ^ 31 := fun p => Nat.lt_of_le_of_lt (Nat.div_le_self _ _) hn
  intro n
  induction n with
  | zero => intro p _ h; omega
  | succ n ih =>
    intro p h1 h2 h
    rcases Nat.lt_or_ge p place with z | z
    · refine br_f (nI_ge z hp) ⟨by decide, nm_r (e' := nI (num / 5 ^ (p + 1))) ?_ (nm_r (nI_1 p) (ih (p + 1) (by omega) (by omega) h))⟩
      rw [tj_dv_5 (hb p), Nat.div_div_eq_div_mul, ← Nat.pow_succ]
    · have e : p = place := by omega
      subst e
      refine br_t (nI_le (Nat.le_refl p) hp) ⟨by decide, ?_⟩
      have e := pk_rem (d := 5) (hb p) (by decide) (by decide)
      show post (nI (num / 5 ^ p) - nI (num / 5 ^ p) / nI 5 * nI 5)
      rw [e]
      exact h
theorem xx_dig {num place : Nat} (hn : num < 2 ^ 31) (hp : place < 2 ^ 31) (h : post (nI (num / 5 ^ place % 5))) : wpX_digit post (nI num) (nI place) := by
  have := xx_dig_l hn hp (place + 1) 0 (by omega) (by omega) h
  rw [Nat.pow_zero, Nat.div_one] at this
  exact ⟨_, this⟩
end
section
variable {post : Int32 → Prop} {L : Int32} {B W G A M : Nat → Int32} {cn ak rl vr : Nat → Nat}
theorem xx_all {q : Nat} (hq : q < 2) (hc : cn q ≤ 4) (h : post (nI (2 ^ cn q - 1))) : wpX_allAtoms post (L, B, tj_A cn, tj_A ak, tj_A rl, tj_A vr, W, G, A, M) (nI q) := by
  refine ⟨vp_in_nI hq (by decide), ?_⟩
  show post (((1 : Int32) <<< ((tj_A cn (nI q).toNatClampNeg) &&& 31)) - 1)
  rw [nI_clamp (by omega), tj_Ap, tj_shl (by omega), tj_s1 (Nat.two_pow_pos _)]
  exact h
theorem xx_vo_in {J : Int32 → Int32 → Prop} {x1 x2 : Int32} {i p r vs acc : Nat} (hp : p < 8) (hW : ∀ c, c < tj_w r → W (3 * p + c) = nI (tj_c r vs c)) : ∀ n c, c ≤ tj_w r → tj_w r - c < n → J (nI (acc ||| tj_sp r vs (tj_w r))) (nI (i + 1)) →
    wX_variablesOf_43 post J x1 x2 (nI i) (nI p) (nI (tj_w r)) L B (tj_A cn) (tj_A ak) (tj_A rl) (tj_A vr) W G A M n (nI (acc ||| tj_sp r vs c)) (nI c) := by
  have hw : tj_w r ≤ 3 := by rcases tj_w_2 r with h | h <;> omega
  intro n
  induction n with
  | zero => intro c _ h; omega
  | succ n ih =>
    intro c h1 h2 h
    rcases Nat.lt_or_ge c (tj_w r) with z | z
    · refine br_f (nI_ge z (by omega)) ⟨pk_in (3 * p + c) 24 (by omega) (tj_e3 p c), nm_r (e' := nI (acc ||| tj_sp r vs (c + 1))) ?_ (nm_r (nI_1 c) (ih (c + 1) (by omega) (by omega) h))⟩
      have := tj_c_lt r vs c
      rw [tj_e3, nI_clamp (by omega), hW c z, tj_shl (by omega), tj_or, Nat.or_assoc]
      rfl
    · have e : c = tj_w r := by omega
      rw [e]
      exact br_t (nI_le (Nat.le_refl _) (by omega)) (nm_r (nI_1 i) h)
theorem xx_vo_out {q s : Nat} (hq : q < 2) (hs : s < 2 ^ 31) (ha : tj_At rl vr W) : ∀ n i, i ≤ 4 → 4 - i < n → post (nI (tj_vo (fun i => tj_so (rl (4 * q + i)) (vr (4 * q + i))) s 4)) →
    wX_variablesOf_5 post (nI q) (nI s) L B (tj_A cn) (tj_A ak) (tj_A rl) (tj_A vr) W G A M n (nI (tj_vo (fun i => tj_so (rl (4 * q + i)) (vr (4 * q + i))) s i)) (nI i) := by
  intro n
  induction n with
  | zero => intro i _ h; omega
  | succ n ih =>
    intro i h1 h2 h
    rcases Nat.lt_or_ge i 4 with z | z
    · have k := ih (i + 1) (by omega) (by omega) h
      obtain ⟨a1, a2, a3⟩ := ha (4 * q + i) (by omega)
      refine br_f (nI_ge (b := 4) z (by decide)) (xx_has hs (by omega) (fun ht => br_f (by decide) (nm_r (tj_e4 q i) ⟨vp_in_nI (by omega) (by decide), ?_⟩)) (fun hf => br_t rfl (nm_r (nI_1 i) ?_)))
      · show wpX_columns _ (tj_A rl (nI (4 * q + i)).toNatClampNeg)
        rw [nI_clamp (by omega), tj_Ap]
        refine xx_cols a1 ⟨tj_w (rl (4 * q + i)) + 1, ?_⟩
        have j := xx_vo_in (post := post) (L := L) (B := B) (W := W) (G := G) (A := A) (M := M) (cn := cn) (ak := ak) (rl := rl) (vr := vr) (J := wX_variablesOf_5 post (nI q) (nI s) L B (tj_A cn) (tj_A ak) (tj_A rl) (tj_A vr) W G A M n) (x1 := nI q) (x2 := nI s) (i := i) (p := 4 * q + i) (acc := tj_vo (fun i => tj_so (rl (4 * q + i)) (vr (4 * q + i))) s i) (by omega) a3 (tj_w (rl (4 * q + i)) + 1) 0 (by omega) (by omega)
        have e : tj_sp (rl (4 * q + i)) (vr (4 * q + i)) 0 = 0 := rfl
        rw [e, Nat.or_zero] at j
        refine j ?_
        have e2 : tj_vo (fun i => tj_so (rl (4 * q + i)) (vr (4 * q + i))) s (i + 1) = tj_vo (fun i => tj_so (rl (4 * q + i)) (vr (4 * q + i))) s i ||| tj_sp (rl (4 * q + i)) (vr (4 * q + i)) (tj_w (rl (4 * q + i))) := if_pos ht
        rw [e2] at k
        exact k
      · have e2 : tj_vo (fun i => tj_so (rl (4 * q + i)) (vr (4 * q + i))) s (i + 1) = tj_vo (fun i => tj_so (rl (4 * q + i)) (vr (4 * q + i))) s i := if_neg (by rw [hf]; decide)
        rw [e2] at k
        exact k
    · have e : i = 4 := by omega
      subst e
      exact br_t (by decide) h
theorem xx_vo {q s : Nat} (hq : q < 2) (hs : s < 2 ^ 31) (ha : tj_At rl vr W) (h : post (nI (tj_vo (fun i => tj_so (rl (4 * q + i)) (vr (4 * q + i))) s 4))) : wpX_variablesOf post (L, B, tj_A cn, tj_A ak, tj_A rl, tj_A vr, W, G, A, M) (nI q) (nI s) :=
  ⟨5, xx_vo_out hq hs ha 5 0 (by omega) (by omega) h⟩
end
