/-! Y: small methods -/
section
variable {post : Int32 → Prop} {th : Nat → Bool} {D E : Nat → Int32} {cn ak rl vr : Nat → Nat}
theorem yy_cols {r : Nat} (hr : r < 3) (h : post (nI (tj_w r))) : wpY_columns post (tj_T th, tj_A cn, tj_A rl, tj_A vr, tj_A ak, D, E) (nI r) := by
  rcases tj_on r with ⟨e, w, _, _⟩ | ⟨e, w, _, _⟩
  · rw [w] at h
    subst e
    exact br_t rfl h
  · rw [w] at h
    exact br_f (tj_n2 hr e) h
theorem yy_isQ {q : Nat} (hq : q < 2) (h : post 1) : wpY_isQuestion post (tj_T th, tj_A cn, tj_A rl, tj_A vr, tj_A ak, D, E) (nI q) := by
  have : q = 0 ∨ q = 1 := by omega
  rcases this with rfl | rfl
  · exact br_t rfl h
  · exact br_f (by decide) (br_t rfl h)
theorem yy_nQ {q : Int32} (hq : ∀ j, j < 2 → q ≠ nI j) (h : post 0) : wpY_isQuestion post (tj_T th, tj_A cn, tj_A rl, tj_A vr, tj_A ak, D, E) q :=
  br_f (hq 0 (by decide)) (br_f (hq 1 (by decide)) h)
theorem yy_isRow {r row : Nat} (hr : r < 3) (hw : row < tj_n r) (h : post 1) : wpY_isRow post (tj_T th, tj_A cn, tj_A rl, tj_A vr, tj_A ak, D, E) (nI r) (nI row) := by
  have hn : tj_n r ≤ 125 := by rcases tj_on r with ⟨_, _, _, _⟩ | ⟨_, _, _, _⟩ <;> omega
  refine br_f (nI_pos (by omega)) (br_f (nI_nlt (a := 2) (by omega) (by decide)) (br_f (nI_pos (by omega)) ?_))
  rcases tj_on r with ⟨e, _, n, _⟩ | ⟨e, _, n, _⟩
  · subst e
    exact br_t rfl (br_f (nI_nlt (a := 124) (by omega) (by decide)) h)
  · exact br_f (tj_n2 hr e) (br_f (nI_nlt (a := 24) (by omega) (by decide)) h)
theorem tj_lt_le {a : Nat} {x : Int32} (ha : a + 1 < 2 ^ 31) (h : nI (a + 1) ≤ x) : nI a < x := Int32.lt_of_lt_of_le (nI_lt (Nat.lt_succ_self a) ha) h
theorem yy_nRow {r row : Int32} (hn : ∀ a b, a < 3 → b < tj_n a → r = nI a → row ≠ nI b) (h : post 0) : wpY_isRow post (tj_T th, tj_A cn, tj_A rl, tj_A vr, tj_A ak, D, E) r row := by
  rcases pk_ix r (n := 3) (by decide) with z | z | ⟨a, ha, e⟩
  · exact br_t z h
  · exact br_c (fun _ => h) (fun _ => br_t (tj_lt_le (a := 2) (by decide) z) h)
  · subst e
    have h5 : tj_n a ≤ 125 := by rcases tj_on a with ⟨_, _, _, _⟩ | ⟨_, _, _, _⟩ <;> omega
    refine br_f (nI_pos (by omega)) (br_f (nI_nlt (a := 2) (by omega) (by decide)) ?_)
    rcases pk_ix row (n := tj_n a) (by omega) with z | z | ⟨j, hj, e⟩
    · exact br_t z h
    · refine br_c (fun _ => h) (fun _ => ?_)
      rcases tj_on a with ⟨e, _, n, _⟩ | ⟨e, _, n, _⟩
      · rw [n] at z
        subst e
        exact br_t rfl (br_t (tj_lt_le (a := 124) (by decide) z) h)
      · rw [n] at z
        exact br_f (tj_n2 ha e) (br_t (tj_lt_le (a := 24) (by decide) z) h)
    · exact absurd e (hn a j ha hj rfl)
theorem yy_in {s m : Nat} (hs : s < 2 ^ 31) (hm : m < 32) (f : s.testBit m = true → post 1) (g : s.testBit m = false → post 0) : wpY_in post (tj_T th, tj_A cn, tj_A rl, tj_A vr, tj_A ak, D, E) (nI s) (nI m) :=
  tj_hasP hs hm f g
theorem tj_ks_t {f : Nat → Bool} {lo a : Nat} (h : f (lo + a) = true) : tj_k f lo (a + 1) = tj_k f lo a + 1 := by
  show tj_k f lo a + (if f (lo + a) = true then 1 else 0) = _
  rw [if_pos h]
theorem tj_ks_f {f : Nat → Bool} {lo a : Nat} (h : f (lo + a) = false) : tj_k f lo (a + 1) = tj_k f lo a := by
  show tj_k f lo a + (if f (lo + a) = true then 1 else 0) = _
  rw [if_neg (by rw [h]; decide), Nat.add_zero]
theorem tj_T_n {f : Nat → Bool} {k : Nat} (h : ¬ tj_T f k = 0) : f k = true := by
  cases e : f k with
  | true => rfl
  | false => exact absurd (tj_T_f.mpr e) h
theorem yy_rows_l {r : Nat} (hr : r < 3) (h : post (nI (tj_k th (125 * r) 125))) : ∀ n k, k ≤ 125 → 125 - k < n → wY_rows_15 post (nI r) (tj_T th) (tj_A cn) (tj_A rl) (tj_A vr) (tj_A ak) D E n (nI (tj_k th (125 * r) k)) (nI k) := by
  intro n
  induction n with
  | zero => intro k _ h; omega
  | succ n ih =>
    intro k k1 k2
    rcases Nat.lt_or_ge k 125 with z | z
    · have q := ih (k + 1) (by omega) (by omega)
      refine br_f (nI_ge (b := 125) z (by decide)) ⟨pk_in (125 * r + k) 375 (by omega) (tj_e125 r k), ?_⟩
      rw [tj_e125, nI_clamp (by omega)]
      refine br_c (fun e => nm_r (nI_1 k) ?_) (fun e => nm_r (nI_1 _) (nm_r (nI_1 k) ?_))
      · rw [tj_ks_f (tj_T_f.mp e)] at q
        exact q
      · rw [tj_ks_t (tj_T_n e)] at q
        exact q
    · have e : k = 125 := by omega
      subst e
      exact br_t (by decide) h
theorem yy_rows {r : Nat} (hr : r < 3) (h : post (nI (tj_k th (125 * r) 125))) : wpY_rows post (tj_T th, tj_A cn, tj_A rl, tj_A vr, tj_A ak, D, E) (nI r) :=
  br_f (nI_pos (by omega)) (br_t (nI_le (b := 2) (by omega) (by decide)) ⟨126, yy_rows_l hr h 126 0 (by omega) (by omega)⟩)
theorem yy_col_l {r row c : Nat} (hr : r < 3) (hb : row < 2 ^ 31) (hc : c < tj_w r) (h : post (nI (tj_c r row c))) : ∀ n j, c + 1 + j ≤ tj_w r → tj_w r - (c + 1 + j) < n → wY_column_8 post (nI r) (tj_T th) (tj_A cn) (tj_A rl) (tj_A vr) (tj_A ak) D E n (nI (row / 5 ^ j)) (nI (c + 1 + j)) := by
  have hw : tj_w r ≤ 3 := by rcases tj_w_2 r with h | h <;> omega
  have bd : ∀ p, row / 5 ^ p < 2 ^ 31 := fun p => Nat.lt_of_le_of_lt (Nat.div_le_self _ _) hb
  intro n
  induction n with
  | zero => intro k _ h; omega
  | succ n ih =>
    intro j k1 k2
    unfold wY_column_8
    refine yy_cols hr (pk_le (tj_w r) (c + 1 + j) (fun le => ⟨by decide, ?_⟩) (fun gt => ⟨by decide, nm_r (e' := nI (row / 5 ^ (j + 1))) ?_ (nm_r (nI_1 _) (ih (j + 1) (by omega) (by omega)))⟩))
    · have e : j = tj_w r - 1 - c := by omega
      subst e
      have e := pk_rem (d := 5) (bd (tj_w r - 1 - c)) (by decide) (by decide)
      show post (nI (row / 5 ^ (tj_w r - 1 - c)) - nI (row / 5 ^ (tj_w r - 1 - c)) / nI 5 * nI 5)
      rw [e]
      exact h
    · rw [tj_dv_5 (bd j), Nat.div_div_eq_div_mul, ← Nat.pow_succ]
theorem yy_col {r row c : Nat} (hr : r < 3) (hb : row < 2 ^ 31) (hc : c < tj_w r) (h : post (nI (tj_c r row c))) : wpY_column post (tj_T th, tj_A cn, tj_A rl, tj_A vr, tj_A ak, D, E) (nI r) (nI row) (nI c) := by
  have k := yy_col_l (th := th) (cn := cn) (ak := ak) (rl := rl) (vr := vr) (D := D) (E := E) hr hb hc h (tj_w r + 1) 0 (by omega) (by omega)
  rw [Nat.pow_zero, Nat.div_one] at k
  exact nm_r (nI_1 c) ⟨_, k⟩
theorem yy_set_l {p : Nat} (hp : p < 8) (hr : rl p < 3) (hv : vr p < 2 ^ 31) (h : post (nI (tj_so (rl p) (vr p)))) : ∀ n c, c ≤ tj_w (rl p) → tj_w (rl p) - c < n → wY_setOf_4 post (nI p) (tj_T th) (tj_A cn) (tj_A rl) (tj_A vr) (tj_A ak) D E n (nI (tj_sp (rl p) (vr p) c)) (nI c) := by
  have hw : tj_w (rl p) ≤ 3 := by rcases tj_w_2 (rl p) with h | h <;> omega
  intro n
  induction n with
  | zero => intro k _ h; omega
  | succ n ih =>
    intro c k1 k2
    refine ⟨vp_in_nI hp (by decide), ?_⟩
    rw [nI_clamp (n := p) (by omega)]
    refine yy_cols hr (pk_le (tj_w (rl p)) c (fun le => ?_) (fun gt => ⟨vp_in_nI hp (by decide), vp_in_nI hp (by decide), yy_col hr hv gt (nm_r (e' := nI (tj_sp (rl p) (vr p) (c + 1))) ?_ (nm_r (nI_1 c) (ih (c + 1) (by omega) (by omega))))⟩))
    · have e : c = tj_w (rl p) := by omega
      rw [e]
      exact h
    · have := tj_c_lt (rl p) (vr p) c
      rw [tj_shl (by omega), tj_or]
      rfl
theorem yy_set {p : Nat} (hp : p < 8) (hr : rl p < 3) (hv : vr p < 2 ^ 31) (h : post (nI (tj_so (rl p) (vr p)))) : wpY_setOf post (tj_T th, tj_A cn, tj_A rl, tj_A vr, tj_A ak, D, E) (nI p) :=
  ⟨_, yy_set_l hp hr hv h (tj_w (rl p) + 1) 0 (by omega) (by omega)⟩
end
/-- the atoms of Y -/
def tj_Ay (rl vr : Nat → Nat) : Prop := ∀ p, p < 8 → rl p < 3 ∧ vr p < tj_n (rl p)
theorem tj_Ay_b {rl vr : Nat → Nat} (h : tj_Ay rl vr) {p : Nat} (hp : p < 8) : rl p < 3 ∧ vr p < 125 := by
  obtain ⟨a, b⟩ := h p hp
  refine ⟨a, ?_⟩
  rcases tj_on (rl p) with ⟨_, _, _, _⟩ | ⟨_, _, _, _⟩ <;> omega
section
variable {post : Int32 → Prop} {th : Nat → Bool} {D E : Nat → Int32} {cn ak rl vr : Nat → Nat}
theorem yy_vo_l {q s : Nat} (hq : q < 2) (hc : cn q ≤ 4) (hs : s < 2 ^ 31) (ha : tj_Ay rl vr) (h : post (nI (tj_vo (fun i => tj_so (rl (4 * q + i)) (vr (4 * q + i))) s (cn q)))) : ∀ n i, i ≤ cn q → cn q - i < n → wY_variablesOf_5 post (nI q) (nI s) (tj_T th) (tj_A cn) (tj_A rl) (tj_A vr) (tj_A ak) D E n (nI (tj_vo (fun i => tj_so (rl (4 * q + i)) (vr (4 * q + i))) s i)) (nI i) := by
  intro n
  induction n with
  | zero => intro k _ h; omega
  | succ n ih =>
    intro i k1 k2
    refine ⟨vp_in_nI hq (by decide), ?_⟩
    rw [nI_clamp (n := q) (by omega)]
    refine pk_le (cn q) i (fun le => ?_) (fun gt => ?_)
    · have e : i = cn q := by omega
      rw [e]
      exact h
    · have k := ih (i + 1) (by omega) (by omega)
      obtain ⟨a1, a2⟩ := tj_Ay_b ha (show 4 * q + i < 8 by omega)
      refine yy_in hs (by omega) (fun ht => br_f (by decide) ?_) (fun hf => br_t rfl (nm_r (nI_1 i) ?_))
      · rw [tj_f4]
        refine yy_set (by omega) a1 (by omega) (nm_r (tj_or _ _) (nm_r (nI_1 i) ?_))
        have e2 : tj_vo (fun i => tj_so (rl (4 * q + i)) (vr (4 * q + i))) s (i + 1) = tj_vo (fun i => tj_so (rl (4 * q + i)) (vr (4 * q + i))) s i ||| tj_so (rl (4 * q + i)) (vr (4 * q + i)) := if_pos ht
        rw [e2] at k
        exact k
      · have e2 : tj_vo (fun i => tj_so (rl (4 * q + i)) (vr (4 * q + i))) s (i + 1) = tj_vo (fun i => tj_so (rl (4 * q + i)) (vr (4 * q + i))) s i := if_neg (by rw [hf]; decide)
        rw [e2] at k
        exact k
theorem yy_vo {q s : Nat} (hq : q < 2) (hc : cn q ≤ 4) (hs : s < 2 ^ 31) (ha : tj_Ay rl vr) (h : post (nI (tj_vo (fun i => tj_so (rl (4 * q + i)) (vr (4 * q + i))) s (cn q)))) : wpY_variablesOf post (tj_T th, tj_A cn, tj_A rl, tj_A vr, tj_A ak, D, E) (nI q) (nI s) :=
  ⟨_, yy_vo_l hq hc hs ha h (cn q + 1) 0 (by omega) (by omega)⟩
theorem yy_all {q : Nat} (hq : q < 2) (hc : cn q ≤ 4) (h : post (nI (2 ^ cn q - 1))) : wpY_all post (tj_T th, tj_A cn, tj_A rl, tj_A vr, tj_A ak, D, E) (nI q) := by
  refine ⟨vp_in_nI hq (by decide), ?_⟩
  show post (((1 : Int32) <<< ((tj_A cn (nI q).toNatClampNeg) &&& 31)) - 1)
  rw [nI_clamp (by omega), tj_Ap, tj_shl (by omega), tj_s1 (Nat.two_pow_pos _)]
  exact h
theorem yy_isWhole {q s : Nat} (hq : q < 2) (hc : cn q ≤ 4) (hk : ak q < 32) (hs : s < 2 ^ 31) (ha : tj_Ay rl vr) (h1 : s ≠ 0 → tj_mi (ak q) (tj_vo (fun i => tj_so (rl (4 * q + i)) (vr (4 * q + i))) s (cn q)) = 0 → post 1) (h0 : ¬ (s ≠ 0 ∧ tj_mi (ak q) (tj_vo (fun i => tj_so (rl (4 * q + i)) (vr (4 * q + i))) s (cn q)) = 0) → post 0) : wpY_isWhole post (tj_T th, tj_A cn, tj_A rl, tj_A vr, tj_A ak, D, E) (nI q) (nI s) := by
  unfold wpY_isWhole
  refine yy_vo hq hc hs ha (pk_eq s 0 (fun e => h0 (fun y => y.1 e)) (fun e => ⟨vp_in_nI hq (by decide), ?_⟩))
  have l := tj_vo_lt (f := (fun i => tj_so (rl (4 * q + i)) (vr (4 * q + i)))) (s := s) (fun i => tj_so_lt _ _) (cn q)
  rw [nI_clamp (by omega), tj_Ap, tj_miI _ hk _ l, tj_eq_0 (Nat.lt_trans (tj_mi_lt hk) (by decide))]
  exact br_c (fun w => h1 e w) (fun w => h0 (fun y => w y.2))
theorem yy_whole {q : Nat} (hq : q < 2) (hc : cn q ≤ 4) (hk : ak q < 32) (ha : tj_Ay rl vr) (h1 : tj_wh cn ak rl vr q → post 1) (h0 : ¬ tj_wh cn ak rl vr q → post 0) : wpY_whole post (tj_T th, tj_A cn, tj_A rl, tj_A vr, tj_A ak, D, E) (nI q) := by
  obtain ⟨p1, p2, p3⟩ := tj_p1 hc
  unfold wpY_whole
  refine yy_isQ hq (br_f (by decide) (yy_all hq hc (yy_isWhole hq hc hk (by omega) ha (fun a b => ⟨rfl, h1 ⟨fun e => a (p3.mpr e), b⟩⟩) (fun n => ⟨rfl, h0 (fun y => n ⟨fun e => y.1 (p3.mp e), y.2⟩)⟩))))
theorem yy_given_l {code v : Nat} (hc : code < 2 ^ 31) (hv : v ≤ 4) (h : post (nI (tj_g code v))) : ∀ n j, v + j ≤ 4 → 4 - (v + j) < n → wY_given_5 post (tj_T th) (tj_A cn) (tj_A rl) (tj_A vr) (tj_A ak) D E n (nI (code / 5 ^ j)) (nI (v + j)) := by
  have bd : ∀ p, code / 5 ^ p < 2 ^ 31 := fun p => Nat.lt_of_le_of_lt (Nat.div_le_self _ _) hc
  intro n
  induction n with
  | zero => intro k _ h; omega
  | succ n ih =>
    intro j k1 k2
    refine pk_le 4 (v + j) (fun le => ⟨by decide, ?_⟩) (fun gt => ⟨by decide, nm_r (e' := nI (code / 5 ^ (j + 1))) ?_ (nm_r (nI_1 _) (ih (j + 1) (by omega) (by omega)))⟩)
    · have e : j = 4 - v := by omega
      subst e
      have e := pk_rem (d := 5) (bd (4 - v)) (by decide) (by decide)
      show post (nI (code / 5 ^ (4 - v)) - nI (code / 5 ^ (4 - v)) / nI 5 * nI 5)
      rw [e]
      exact h
    · rw [tj_dv_5 (bd j), Nat.div_div_eq_div_mul, ← Nat.pow_succ]
theorem yy_given {code v : Nat} (hc : code < 2 ^ 31) (hv : v ≤ 4) (h : post (nI (tj_g code v))) : wpY_given post (tj_T th, tj_A cn, tj_A rl, tj_A vr, tj_A ak, D, E) (nI code) (nI v) := by
  have k := yy_given_l (th := th) (cn := cn) (ak := ak) (rl := rl) (vr := vr) (D := D) (E := E) hc hv h 5 0 (by omega) (by omega)
  rw [Nat.pow_zero, Nat.div_one] at k
  exact ⟨5, k⟩
theorem yy_rep_l {p code : Nat} (hp : p < 8) (hr : rl p < 3) (hv : vr p < 2 ^ 31) (hc : code < 2 ^ 31) (h : post (nI (tj_row (rl p) (vr p) (tj_g code)))) : ∀ n c, c ≤ tj_w (rl p) → tj_w (rl p) - c < n → wY_replaced_5 post (nI p) (nI code) (tj_T th) (tj_A cn) (tj_A rl) (tj_A vr) (tj_A ak) D E n (nI (tj_rp (rl p) (vr p) (tj_g code) c)) (nI c) := by
  have hw : tj_w (rl p) ≤ 3 := by rcases tj_w_2 (rl p) with h | h <;> omega
  intro n
  induction n with
  | zero => intro k _ h; omega
  | succ n ih =>
    intro c k1 k2
    refine ⟨vp_in_nI hp (by decide), ?_⟩
    rw [nI_clamp (n := p) (by omega)]
    refine yy_cols hr (pk_le (tj_w (rl p)) c (fun le => ?_) (fun gt => ⟨vp_in_nI hp (by decide), vp_in_nI hp (by decide), yy_col hr hv gt (yy_given hc (by have := tj_c_lt (rl p) (vr p) c; omega) (nm_r (e' := nI (tj_rp (rl p) (vr p) (tj_g code) (c + 1))) ?_ (nm_r (nI_1 c) (ih (c + 1) (by omega) (by omega)))))⟩))
    · have e : c = tj_w (rl p) := by omega
      rw [e]
      exact h
    · rw [tj_ml_5, nI_add]
      rfl
theorem yy_rep {p code : Nat} (hp : p < 8) (hr : rl p < 3) (hv : vr p < 2 ^ 31) (hc : code < 2 ^ 31) (h : post (nI (tj_row (rl p) (vr p) (tj_g code)))) : wpY_replaced post (tj_T th, tj_A cn, tj_A rl, tj_A vr, tj_A ak, D, E) (nI p) (nI code) :=
  ⟨_, yy_rep_l hp hr hv hc h (tj_w (rl p) + 1) 0 (by omega) (by omega)⟩
theorem tj_LY_lt {r row : Nat} (hr : r < 3) (hw : row < tj_n r) : 125 * r + row < 375 := by
  rcases tj_on r with ⟨_, _, _, _⟩ | ⟨_, _, _, _⟩ <;> omega
theorem yy_choice_l {q code : Nat} (hq : q < 2) (hn : cn q ≤ 4) (hc : code < 2 ^ 31) (ha : tj_Ay rl vr) (h1 : tj_ch th rl vr (4 * q) (cn q) (tj_g code) → post 1) (h0 : ¬ tj_ch th rl vr (4 * q) (cn q) (tj_g code) → post 0) :
    ∀ n i, i ≤ cn q → cn q - i < n → (∀ j, j < i → th (125 * rl (4 * q + j) + tj_row (rl (4 * q + j)) (vr (4 * q + j)) (tj_g code)) = true) → wY_isChoice_4 post (nI q) (nI code) (tj_T th) (tj_A cn) (tj_A rl) (tj_A vr) (tj_A ak) D E n (nI (4 * q + i)) := by
  intro n
  induction n with
  | zero => intro k _ h; omega
  | succ n ih =>
    intro i k1 k2 hj
    refine ⟨vp_in_nI hq (by decide), ?_⟩
    rw [nI_clamp (n := q) (by omega), tj_Ap, tj_f4]
    refine pk_le (4 * q + cn q) (4 * q + i) (fun le => ?_) (fun gt => ?_)
    · have e : i = cn q := by omega
      subst e
      exact h1 hj
    · obtain ⟨a1, a2⟩ := tj_Ay_b ha (show 4 * q + i < 8 by omega)
      have rlt := tj_LY_lt a1 (tj_row_lt (r := rl (4 * q + i)) (vs := vr (4 * q + i)) (fun v _ => tj_g_lt code v))
      refine yy_rep (by omega) a1 (by omega) hc ⟨vp_in_nI (by omega) (by decide), ?_⟩
      rw [nI_clamp (n := 4 * q + i) (by omega), tj_Ap, tj_e125]
      refine ⟨vp_in_nI rlt (by decide), ?_⟩
      rw [nI_clamp (by omega)]
      refine br_c (fun e => h0 (fun y => ?_)) (fun e => nm_r (nI_1 _) (ih (i + 1) (by omega) (by omega) (fun j hj' => ?_)))
      · have := y i (by omega)
        rw [tj_T_f.mp e] at this
        exact absurd this (by decide)
      · by_cases e2 : j = i
        · subst e2; exact tj_T_n e
        · exact hj j (by omega)
theorem yy_choice {q code : Nat} (hq : q < 2) (hn : cn q ≤ 4) (hc : code < 2 ^ 31) (ha : tj_Ay rl vr) (h1 : tj_ch th rl vr (4 * q) (cn q) (tj_g code) → post 1) (h0 : ¬ tj_ch th rl vr (4 * q) (cn q) (tj_g code) → post 0) : wpY_isChoice post (tj_T th, tj_A cn, tj_A rl, tj_A vr, tj_A ak, D, E) (nI q) (nI code) :=
  nm_r (tj_ml_4 q) ⟨cn q + 1, yy_choice_l hq hn hc ha h1 h0 _ 0 (by omega) (by omega) (fun j hj => by omega)⟩
theorem yy_aof_l {q code : Nat} (hq : q < 2) (hk : ak q < 32) (hc : code < 2 ^ 31) (h : post (nI (tj_ao (ak q) (tj_g code) 5))) : ∀ n v, v ≤ 5 → 5 - v < n → wY_answerOf_5 post (nI q) (nI code) (tj_T th) (tj_A cn) (tj_A rl) (tj_A vr) (tj_A ak) D E n (nI (tj_ao (ak q) (tj_g code) v)) (nI v) := by
  intro n
  induction n with
  | zero => intro v _ h; omega
  | succ n ih =>
    intro v h1 h2
    rcases Nat.lt_or_ge v 5 with z | z
    · have k := ih (v + 1) (by omega) (by omega)
      refine br_f (nI_ge (b := 5) z (by decide)) ⟨vp_in_nI hq (by decide), ?_⟩
      rw [nI_clamp (n := q) (by omega), tj_Ap]
      refine yy_in (by omega) (by omega) (fun ht => br_f (by decide) (yy_given hc (by omega) (nm_r (e' := nI (tj_ao (ak q) (tj_g code) (v + 1))) ?_ (nm_r (nI_1 v) k)))) (fun hf => br_t rfl (nm_r (nI_1 v) ?_))
      · rw [tj_ml_5, nI_add]
        have e : tj_ao (ak q) (tj_g code) (v + 1) = 5 * tj_ao (ak q) (tj_g code) v + tj_g code v := if_pos ht
        rw [e]
      · have e : tj_ao (ak q) (tj_g code) (v + 1) = tj_ao (ak q) (tj_g code) v := if_neg (by rw [hf]; decide)
        rw [e] at k
        exact k
    · have e : v = 5 := by omega
      subst e
      exact br_t (by decide) h
theorem yy_aof {q code : Nat} (hq : q < 2) (hk : ak q < 32) (hc : code < 2 ^ 31) (h : post (nI (tj_ao (ak q) (tj_g code) 5))) : wpY_answerOf post (tj_T th, tj_A cn, tj_A rl, tj_A vr, tj_A ak, D, E) (nI q) (nI code) :=
  ⟨6, yy_aof_l hq hk hc h 6 0 (by omega) (by omega)⟩
end
