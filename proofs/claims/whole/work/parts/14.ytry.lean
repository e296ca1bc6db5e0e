/-! Y: all codes tried, scans -/
section
variable {post : SY → Prop} {th : Nat → Bool} {D E : Nat → Int32} {cn ak rl vr : Nat → Nat}
theorem yy_t81 {J : Int32 → (Nat → Int32) → (Nat → Int32) → (Nat → Int32) → (Nat → Int32) → (Nat → Int32) → (Nat → Int32) → (Nat → Int32) → Prop} {q code : Nat} {P : Nat → Prop} (hq : q < 2) (hn : cn q ≤ 4) (hc : code < 2 ^ 31) (ha : tj_Ay rl vr)
    (h : ∀ E', tj_B E' (fun k => P k ∨ ∃ j, j < cn q ∧ tj_LY (rl (4 * q + j)) (tj_row (rl (4 * q + j)) (vr (4 * q + j)) (tj_g code)) = k) 375 → J (nI (code + 1)) (tj_T th) (tj_A cn) (tj_A rl) (tj_A vr) (tj_A ak) D E') :
    ∀ n i E, i ≤ cn q → cn q - i < n → tj_B E (fun k => P k ∨ ∃ j, j < i ∧ tj_LY (rl (4 * q + j)) (tj_row (rl (4 * q + j)) (vr (4 * q + j)) (tj_g code)) = k) 375 → wY_tryAll_81 post J (nI q) (nI code) n (nI (4 * q + i)) (tj_T th) (tj_A cn) (tj_A rl) (tj_A vr) (tj_A ak) D E := by
  intro n
  induction n with
  | zero => intro i _ _ h; omega
  | succ n ih =>
    intro i E h1 h2 hE
    refine ⟨vp_in_nI hq (by decide), ?_⟩
    rw [nI_clamp (n := q) (by omega), tj_Ap, tj_f4]
    refine pk_le (4 * q + cn q) (4 * q + i) (fun le => ?_) (fun gt => ?_)
    · have e : i = cn q := by omega
      rw [e] at hE
      exact nm_r (nI_1 code) (h E hE)
    · obtain ⟨a1, a2⟩ := tj_Ay_b ha (show 4 * q + i < 8 by omega)
      have rlt := tj_LY_lt a1 (tj_row_lt (r := rl (4 * q + i)) (vs := vr (4 * q + i)) (fun v _ => tj_g_lt code v))
      refine yy_rep (by omega) a1 (by omega) hc ⟨vp_in_nI (by omega) (by decide), ?_⟩
      rw [nI_clamp (n := 4 * q + i) (by omega), tj_Ap, tj_e125]
      refine ⟨vp_in_nI rlt (by decide), nm_r (e' := upd E (tj_LY (rl (4 * q + i)) (tj_row (rl (4 * q + i)) (vr (4 * q + i)) (tj_g code))) 1) (by rw [nI_clamp (by omega), tj_vb1]; rfl) (nm_r (nI_1 _) (ih (i + 1) _ (by omega) (by omega) (tj_B_c (tj_B_u hE) (fun k _ => ?_))))⟩
      constructor
      · rintro ((p | ⟨j, hj, e⟩) | e)
        · exact Or.inl p
        · exact Or.inr ⟨j, by omega, e⟩
        · exact Or.inr ⟨i, by omega, e⟩
      · rintro (p | ⟨j, hj, e⟩)
        · exact Or.inl (Or.inl p)
        · by_cases y : j = i
          · subst y; exact Or.inr e
          · exact Or.inl (Or.inr ⟨j, by omega, e⟩)
theorem yy_t46 {q : Nat} (hq : q < 2) (hn : cn q ≤ 4) (hk : ak q < 32) (ha : tj_Ay rl vr) (h : ∀ D E, tj_B D (tj_PA th rl vr (4 * q) (cn q) (ak q) 3125) 3125 → tj_B E (tj_PM tj_LY th rl vr (4 * q) (cn q) 3125) 375 → post (tj_T th, tj_A cn, tj_A rl, tj_A vr, tj_A ak, D, E)) :
    ∀ n c D E, c ≤ 3125 → 3125 - c < n → tj_B D (tj_PA th rl vr (4 * q) (cn q) (ak q) c) 3125 → tj_B E (tj_PM tj_LY th rl vr (4 * q) (cn q) c) 375 → wY_tryAll_46 post (nI q) n (nI c) (tj_T th) (tj_A cn) (tj_A rl) (tj_A vr) (tj_A ak) D E := by
  intro n
  induction n with
  | zero => intro c _ _ _ h; omega
  | succ n ih =>
    intro c D E h1 h2 hD hE
    rcases Nat.lt_or_ge c 3125 with z | z
    · refine br_f (nI_ge (b := 3125) z (by decide)) (yy_choice hq hn (by omega) ha (fun hch => br_f (by decide) ?_) (fun hch => br_t rfl (nm_r (nI_1 c) (ih (c + 1) D E (by omega) (by omega) ?_ ?_))))
      · have ao := tj_ao_lt (a := ak q) (g := tj_g c) (fun v _ => tj_g_lt c v) 5 (Nat.le_refl 5)
        refine yy_aof hq hk (by omega) ⟨vp_in_nI ao (by decide), nm_r (e' := upd D (tj_ao (ak q) (tj_g c) 5) 1) (by rw [nI_clamp (Nat.lt_trans ao (by decide)), tj_vb1]) (nm_r (tj_ml_4 q) ⟨cn q + 1, ?_⟩)⟩
        refine yy_t81 (P := tj_PM tj_LY th rl vr (4 * q) (cn q) c) hq hn (by omega) ha (fun E' hE' => ih (c + 1) _ E' (by omega) (by omega) (tj_B_c (tj_B_u hD) (fun k _ => tj_PA_one hch)) (tj_B_c hE' (fun k _ => tj_PM_one hch))) _ 0 E (by omega) (by omega) (tj_B_c hE (fun k _ => ⟨Or.inl, fun y => y.elim id (fun ⟨j, hj, _⟩ => absurd hj (by omega))⟩))
      · refine tj_B_c hD (fun k _ => tj_PA_skip (by omega) (fun d d1 d2 => ?_))
        have e : d = c := by omega
        subst e
        exact hch
      · refine tj_B_c hE (fun k _ => tj_PM_skip (by omega) (fun d d1 d2 => ?_))
        have e : d = c := by omega
        subst e
        exact hch
    · have e : c = 3125 := by omega
      subst e
      exact br_t (by decide) (h D E hD hE)
theorem yy_t24 {q : Nat} (h : ∀ E', (∀ k, k < 375 → E' k = 0) → ∃ n, wY_tryAll_46 post (nI q) n 0 (tj_T th) (tj_A cn) (tj_A rl) (tj_A vr) (tj_A ak) D E') : ∀ n i E, i ≤ 375 → 375 - i < n → (∀ k, k < i → E k = 0) → wY_tryAll_24 post (nI q) n (nI i) (tj_T th) (tj_A cn) (tj_A rl) (tj_A vr) (tj_A ak) D E := by
  intro n
  induction n with
  | zero => intro i _ _ h; omega
  | succ n ih =>
    intro i E h1 h2 hM
    rcases Nat.lt_or_ge i 375 with z | z
    · refine br_f (nI_ge (b := 375) z (by decide)) ⟨vp_in_nI z (by decide), nm_r (e' := upd E i 0) (by rw [nI_clamp (by omega), tj_vb0]) (nm_r (nI_1 i) (ih (i + 1) _ (by omega) (by omega) (fun k hk => ?_)))⟩
      by_cases e : k = i
      · subst e; exact pk_us
      · rw [pk_un e]; exact hM k (by omega)
    · have e : i = 375 := by omega
      subst e
      exact br_t (by decide) (h E hM)
theorem yy_t2 {q : Nat} (h : ∀ D' E', (∀ k, k < 3125 → D' k = 0) → (∀ k, k < 375 → E' k = 0) → ∃ n, wY_tryAll_46 post (nI q) n 0 (tj_T th) (tj_A cn) (tj_A rl) (tj_A vr) (tj_A ak) D' E') : ∀ n i D, i ≤ 3125 → 3125 - i < n → (∀ k, k < i → D k = 0) → wY_tryAll_2 post (nI q) n (nI i) (tj_T th) (tj_A cn) (tj_A rl) (tj_A vr) (tj_A ak) D E := by
  intro n
  induction n with
  | zero => intro i _ _ h; omega
  | succ n ih =>
    intro i D h1 h2 hM
    rcases Nat.lt_or_ge i 3125 with z | z
    · refine br_f (nI_ge (b := 3125) z (by decide)) ⟨vp_in_nI z (by decide), nm_r (e' := upd D i 0) (by rw [nI_clamp (by omega), tj_vb0]) (nm_r (nI_1 i) (ih (i + 1) _ (by omega) (by omega) (fun k hk => ?_)))⟩
      by_cases e : k = i
      · subst e; exact pk_us
      · rw [pk_un e]; exact hM k (by omega)
    · have e : i = 3125 := by omega
      subst e
      exact br_t (by decide) ⟨376, yy_t24 (fun E' hE' => h D E' hM hE') 376 0 E (by omega) (by omega) (fun k hk => by omega)⟩
theorem yy_try {q : Nat} (hq : q < 2) (hn : cn q ≤ 4) (hk : ak q < 32) (ha : tj_Ay rl vr) (h : ∀ D E, tj_B D (tj_PA th rl vr (4 * q) (cn q) (ak q) 3125) 3125 → tj_B E (tj_PM tj_LY th rl vr (4 * q) (cn q) 3125) 375 → post (tj_T th, tj_A cn, tj_A rl, tj_A vr, tj_A ak, D, E)) : wpY_tryAll post (tj_T th, tj_A cn, tj_A rl, tj_A vr, tj_A ak, D, E) (nI q) :=
  ⟨3126, yy_t2 (fun D' E' hD hE => ⟨3126, yy_t46 hq hn hk ha h 3126 0 D' E' (by omega) (by omega) (tj_B_0 hD (fun k => tj_PA_0)) (tj_B_0 hE (fun k => tj_PM_0))⟩) 3126 0 D (by omega) (by omega) (fun k hk => by omega)⟩
end
section
variable {post : Int32 → SY → Prop} {th : Nat → Bool} {D E : Nat → Int32} {cn ak rl vr : Nat → Nat}
theorem yy_count_l (h : post (nI (tj_k (tj_m D) 0 3125)) (tj_T th, tj_A cn, tj_A rl, tj_A vr, tj_A ak, D, E)) : ∀ n a, a ≤ 3125 → 3125 - a < n → wY_count_30 post (tj_T th) (tj_A cn) (tj_A rl) (tj_A vr) (tj_A ak) D E n (nI (tj_k (tj_m D) 0 a)) (nI a) := by
  intro n
  induction n with
  | zero => intro a _ h; omega
  | succ n ih =>
    intro a k1 k2
    rcases Nat.lt_or_ge a 3125 with z | z
    · have k := ih (a + 1) (by omega) (by omega)
      refine br_f (nI_ge (b := 3125) z (by decide)) ⟨vp_in_nI z (by decide), ?_⟩
      rw [nI_clamp (by omega)]
      refine br_c (fun e => nm_r (nI_1 a) ?_) (fun e => nm_r (nI_1 _) (nm_r (nI_1 a) ?_))
      · rw [tj_k0_f (by unfold tj_m; rw [decide_eq_true_eq]; exact fun y => y e)] at k
        exact k
      · rw [tj_k0_t (by unfold tj_m; rw [decide_eq_true_eq]; exact e)] at k
        exact k
    · have e : a = 3125 := by omega
      subst e
      exact br_t (by decide) h
theorem yy_answer_l {x : Int32} : ∀ n a b, a ≤ 3125 → 3125 - a < n → post (tj_fa D x (3125 - a) a b) (tj_T th, tj_A cn, tj_A rl, tj_A vr, tj_A ak, D, E) → wY_answer_31 post x (tj_T th) (tj_A cn) (tj_A rl) (tj_A vr) (tj_A ak) D E n (nI b) (nI a) := by
  intro n
  induction n with
  | zero => intro a b _ h; omega
  | succ n ih =>
    intro a b k1 k2 h
    rcases Nat.lt_or_ge a 3125 with z | z
    · have e3 : 3125 - a = (3125 - (a + 1)) + 1 := by omega
      rw [e3, show tj_fa D x (3125 - (a + 1) + 1) a b = if D a = 0 then tj_fa D x (3125 - (a + 1)) (a + 1) b else if nI b = x then nI a else tj_fa D x (3125 - (a + 1)) (a + 1) (b + 1) from rfl] at h
      refine br_f (nI_ge (b := 3125) z (by decide)) ⟨vp_in_nI z (by decide), ?_⟩
      rw [nI_clamp (by omega)]
      refine br_c (fun e => nm_r (nI_1 a) (ih _ _ (by omega) (by omega) ?_)) (fun e => br_c (fun e2 => ?_) (fun e2 => nm_r (nI_1 b) (nm_r (nI_1 a) (ih _ _ (by omega) (by omega) ?_))))
      · rw [if_pos e] at h; exact h
      · rw [if_neg e, if_pos e2] at h; exact h
      · rw [if_neg e, if_neg e2] at h; exact h
    · have e : a = 3125 := by omega
      subst e
      exact br_t (by decide) h
theorem yy_often_l {x p : Nat} (hx : x < 5) (hp : p < 5) (h : post (nI (tj_k (fun a => tj_m D a && decide (a / 5 ^ p % 5 = x)) 0 3125)) (tj_T th, tj_A cn, tj_A rl, tj_A vr, tj_A ak, D, E)) : ∀ n a, a ≤ 3125 → 3125 - a < n → wY_often_102 post (nI x) (nI p) (tj_T th) (tj_A cn) (tj_A rl) (tj_A vr) (tj_A ak) D E n (nI (tj_k (fun a => tj_m D a && decide (a / 5 ^ p % 5 = x)) 0 a)) (nI a) := by
  intro n
  induction n with
  | zero => intro a _ h; omega
  | succ n ih =>
    intro a k1 k2
    rcases Nat.lt_or_ge a 3125 with z | z
    · have k := ih (a + 1) (by omega) (by omega)
      have d5 : a / 5 ^ p % 5 < 5 := Nat.mod_lt _ (by decide)
      have eg : tj_g a (4 - p) = a / 5 ^ p % 5 := by
        unfold tj_g
        rw [show 4 - (4 - p) = p by omega]
      refine br_f (nI_ge (b := 3125) z (by decide)) ⟨vp_in_nI z (by decide), ?_⟩
      rw [nI_clamp (by omega)]
      refine br_c (fun e => nm_r (nI_1 a) ?_) (fun e => ?_)
      · rw [tj_k0_f (by simp [tj_m, e])] at k
        exact k
      · rw [tj_4s (by omega)]
        refine yy_given (by omega) (by omega) ?_
        rw [eg]
        refine pk_eq (a / 5 ^ p % 5) x (fun e2 => nm_r (nI_1 _) (nm_r (nI_1 a) ?_)) (fun e2 => nm_r (nI_1 a) ?_)
        · rw [tj_k0_t (by simp [tj_m, e, e2])] at k
          exact k
        · rw [tj_k0_f (by simp [tj_m, e, e2])] at k
          exact k
    · have e : a = 3125 := by omega
      subst e
      exact br_t (by decide) h
theorem yy_often66 {q v x : Nat} (hq : q < 2) (hk : ak q < 32) (hv : v < 5) (hx : x < 5) (h : post (nI (tj_k (fun a => tj_m D a && decide (a / 5 ^ (tj_k (fun w => (ak q).testBit w) (v + 1) (4 - v)) % 5 = x)) 0 3125)) (tj_T th, tj_A cn, tj_A rl, tj_A vr, tj_A ak, D, E)) : ∀ n j, v + 1 + j ≤ 5 → 4 - v - j < n →
    wY_often_66 post (nI q) (nI x) (tj_T th) (tj_A cn) (tj_A rl) (tj_A vr) (tj_A ak) D E n (nI (tj_k (fun w => (ak q).testBit w) (v + 1) j)) (nI (v + 1 + j)) := by
  intro n
  induction n with
  | zero => intro j _ h; omega
  | succ n ih =>
    intro j h1 h2
    rcases Nat.lt_or_ge (v + 1 + j) 5 with z | z
    · have k := ih (j + 1) (by omega) (by omega)
      refine br_f (nI_ge (b := 5) z (by decide)) ⟨vp_in_nI hq (by decide), ?_⟩
      rw [nI_clamp (n := q) (by omega), tj_Ap]
      refine yy_in (by omega) (by omega) (fun ht => br_f (by decide) (nm_r (nI_1 _) (nm_r (nI_1 _) ?_))) (fun hf => br_t rfl (nm_r (nI_1 _) ?_))
      · rw [tj_ks_t ht] at k
        exact k
      · rw [tj_ks_f hf] at k
        exact k
    · have e : j = 4 - v := by omega
      subst e
      have e5 : v + 1 + (4 - v) = 5 := by omega
      have kl := tj_k_le (fun w => (ak q).testBit w) (v + 1) (4 - v)
      rw [e5]
      exact br_t (by decide) ⟨3126, yy_often_l hx (by omega) h 3126 0 (by omega) (by omega)⟩
theorem yy_idle_l (h : post (nI (tj_k (fun k => th k && !tj_m E k) 0 375)) (tj_T th, tj_A cn, tj_A rl, tj_A vr, tj_A ak, D, E)) : ∀ n a, a ≤ 375 → 375 - a < n → wY_idle_31 post (tj_T th) (tj_A cn) (tj_A rl) (tj_A vr) (tj_A ak) D E n (nI (tj_k (fun k => th k && !tj_m E k) 0 a)) (nI a) := by
  intro n
  induction n with
  | zero => intro a _ h; omega
  | succ n ih =>
    intro a k1 k2
    rcases Nat.lt_or_ge a 375 with z | z
    · have k := ih (a + 1) (by omega) (by omega)
      refine br_f (nI_ge (b := 375) z (by decide)) ⟨vp_in_nI z (by decide), ?_⟩
      rw [nI_clamp (by omega)]
      refine br_c (fun e => nm_r (nI_1 a) ?_) (fun e => ⟨vp_in_nI z (by decide), br_c (fun e2 => nm_r (nI_1 _) (nm_r (nI_1 a) ?_)) (fun e2 => nm_r (nI_1 a) ?_)⟩)
      · rw [tj_k0_f (by simp [tj_T_f.mp e])] at k
        exact k
      · rw [tj_k0_t (by simp [tj_T_n e, tj_m, e2])] at k
        exact k
      · rw [tj_k0_f (by simp [tj_T_n e, tj_m, e2])] at k
        exact k
    · have e : a = 375 := by omega
      subst e
      exact br_t (by decide) h
theorem yy_cut_l {q i : Nat} (hq : q < 2) (hc : cn q ≤ 4) (hi : i < cn q) (h : post (nI (cn q - 1)) (tj_T th, tj_A (tj_u cn q (cn q - 1)), tj_A (tj_cut rl (4 * q + i) (cn q - 1 - i)), tj_A (tj_cut vr (4 * q + i) (cn q - 1 - i)), tj_A ak, D, E)) :
    ∀ n j, j ≤ cn q - 1 - i → cn q - 1 - i - j < n → wY_cut_30 post (nI q) n (nI (4 * q + i + j)) (tj_T th) (tj_A cn) (tj_A (tj_cut rl (4 * q + i) j)) (tj_A (tj_cut vr (4 * q + i) j)) (tj_A ak) D E := by
  intro n
  induction n with
  | zero => intro j _ h; omega
  | succ n ih =>
    intro j h1 h2
    refine ⟨vp_in_nI hq (by decide), ?_⟩
    rw [nI_clamp (n := q) (by omega), tj_Ap, tj_f4, tj_s1 (by omega)]
    refine pk_le (4 * q + cn q - 1) (4 * q + i + j) (fun le => ?_) (fun gt => ?_)
    · have e : j = cn q - 1 - i := by omega
      subst e
      refine ⟨vp_in_nI hq (by decide), vp_in_nI hq (by decide), nm_r (e' := tj_A (tj_u cn q (cn q - 1))) (by rw [tj_s1 (by omega), tj_A_u]) ⟨vp_in_nI hq (by decide), ?_⟩⟩
      rw [tj_Ap, tj_u_s]
      exact h
    · have e : nI (4 * q + i + j) + 1 = nI (4 * q + i + j + 1) := nI_1 _
      refine ⟨pk_in (4 * q + i + j + 1) 8 (by omega) e, vp_in_nI (by omega) (by decide), nm_r (e' := tj_A (tj_cut rl (4 * q + i) (j + 1))) ?_ ⟨pk_in (4 * q + i + j + 1) 8 (by omega) e, vp_in_nI (by omega) (by decide), nm_r (e' := tj_A (tj_cut vr (4 * q + i) (j + 1))) ?_ (nm_r e (ih (j + 1) (by omega) (by omega)))⟩⟩
      · rw [e, nI_clamp (by omega), nI_clamp (by omega), tj_Ap, tj_A_u]
        rfl
      · rw [e, nI_clamp (by omega), nI_clamp (by omega), tj_Ap, tj_A_u]
        rfl
end
