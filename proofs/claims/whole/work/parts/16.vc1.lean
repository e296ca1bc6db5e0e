/-! the relation; the calls that change what is kept -/
theorem tj_q156 (r : Nat) : nI r * 156 = nI (156 * r) := by rw [tj_mr_156, Nat.mul_comm]
theorem tj_nle {a : Nat} {x : Int32} (ha : a + 1 < 2 ^ 31) (h : nI (a + 1) ≤ x) : ¬ x ≤ nI a := Int32.not_le.mpr (tj_lt_le ha h)
theorem tj_At_y {rl vr : Nat → Nat} {W : Nat → Int32} (h : tj_At rl vr W) : tj_Ay rl vr := fun p hp => ⟨(h p hp).1, (h p hp).2.1⟩
/-- both sides keep th, cn, ak, rl, vr; marks and what is given are free -/
def i_Rel (k : Nat) (u : SX) (v : SY) : Prop := ∃ (th : Nat → Bool) (cn ak rl vr : Nat → Nat) (lv : Nat) (B W G A M D E : Nat → Int32), u = (nI lv, B, tj_A cn, tj_A ak, tj_A rl, tj_A vr, W, G, A, M) ∧ v = (tj_T th, tj_A cn, tj_A rl, tj_A vr, tj_A ak, D, E) ∧ tj_I th cn ak rl vr lv B W
theorem tj_rel {k lv : Nat} {th : Nat → Bool} {cn ak rl vr : Nat → Nat} {B W G A M D E : Nat → Int32} (h : tj_I th cn ak rl vr lv B W) : i_Rel k (nI lv, B, tj_A cn, tj_A ak, tj_A rl, tj_A vr, W, G, A, M) (tj_T th, tj_A cn, tj_A rl, tj_A vr, tj_A ak, D, E) :=
  ⟨th, cn, ak, rl, vr, lv, B, W, G, A, M, D, E, rfl, rfl, h⟩
theorem i_up {k : Nat} {u : SX} {v : SY} (h : i_Rel k u v) : i_Rel (k + 4) u v := h
theorem i_vc0 : wpX_init (fun u => wpY_init (fun v => i_Rel 0 u v)) :=
  ⟨fun _ => false, fun _ => 0, fun _ => 0, fun _ => 0, fun _ => 0, 2, fun _ => 0, fun _ => 0, fun _ => 0, fun _ => 0, fun _ => 0, fun _ => 0, fun _ => 0, rfl, rfl, tj_I_0⟩
theorem i_vc_rows {k : Nat} {u : SX} {v : SY} (I : i_Rel k u v) (hk : k + 4 ≤ 2048) (v1 : Int32) : wpX_rows (fun r => wpY_rows (fun r' => r' = r ∧ i_Rel (k + 4) u v) v v1) u v1 := by
  obtain ⟨th, cn, ak, rl, vr, lv, B, W, G, A, M, D, E, rfl, rfl, hI⟩ := I
  by_cases hr : ∃ r, r < 3 ∧ v1 = nI r
  · obtain ⟨r, hr, rfl⟩ := hr
    unfold wpX_rows
    refine xx_isR hr (br_f (by decide) ⟨pk_in (156 * r) 468 (by omega) (tj_q156 r), ?_⟩)
    rw [tj_q156, nI_clamp (by omega), tj_Bl_root hI.1 hr]
    exact yy_rows hr ⟨rfl, tj_rel hI⟩
  · unfold wpX_rows
    refine xx_nR (fun j hj e => hr ⟨j, hj, e⟩) (br_t rfl ?_)
    rcases pk_ix v1 (n := 3) (by decide) with z | z | ⟨j, hj, e⟩
    · exact br_t z ⟨rfl, tj_rel hI⟩
    · exact br_c (fun _ => ⟨rfl, tj_rel hI⟩) (fun _ => br_f (tj_nle (a := 2) (by decide) z) ⟨rfl, tj_rel hI⟩)
    · exact absurd ⟨j, hj, e⟩ hr
theorem i_vc_level {k : Nat} {u : SX} {v : SY} (I : i_Rel k u v) (hk : k + 4 ≤ 2048) (v1 : Int32) : wpX_level (fun r u' => wpY_level (fun r' => r' = r ∧ i_Rel (k + 4) u' v) v v1) u v1 := by
  obtain ⟨th, cn, ak, rl, vr, lv, B, W, G, A, M, D, E, rfl, rfl, hI⟩ := I
  rcases pk_ix v1 (n := 3) (by decide) with z | z | ⟨j, hj, e⟩
  · exact br_t z (br_t z ⟨rfl, tj_rel hI⟩)
  · exact br_c (fun y => br_t y ⟨rfl, tj_rel hI⟩) (fun y => br_f (tj_nle (a := 2) (by decide) z) (br_f y (br_t (tj_lt_le (a := 2) (by decide) z) ⟨rfl, tj_rel hI⟩)))
  · subst e
    have hI' : tj_I th cn ak rl vr j B W := ⟨hI.1, hI.2.1, hI.2.2.1, hI.2.2.2.1, hI.2.2.2.2.1, hj⟩
    exact br_f (nI_pos (by omega)) (br_t (nI_le (b := 2) (by omega) (by decide)) (br_f (nI_pos (by omega)) (br_f (nI_nlt (a := 2) (by omega) (by decide)) ⟨rfl, tj_rel hI'⟩)))
theorem i_vc_ask {k : Nat} {u : SX} {v : SY} (I : i_Rel k u v) (hk : k + 4 ≤ 2048) (v1 : Int32) (v2 : Int32) : wpX_ask (fun r u' => wpY_ask (fun r' v' => r' = r ∧ i_Rel (k + 4) u' v') v v1 v2) u v1 v2 := by
  obtain ⟨th, cn, ak, rl, vr, lv, B, W, G, A, M, D, E, rfl, rfl, hI⟩ := I
  unfold wpX_ask
  by_cases hq : ∃ q, q < 2 ∧ v1 = nI q
  · obtain ⟨q, hq, rfl⟩ := hq
    refine xx_isQ hq (br_f (by decide) ?_)
    rcases pk_ix v2 (n := 32) (by decide) with z | z | ⟨s, hs, e⟩
    · refine br_t z ?_
      unfold wpY_ask
      exact yy_isQ hq (br_f (by decide) (br_t z ⟨rfl, tj_rel hI⟩))
    · refine br_c (fun y => ?_) (fun y => br_f (tj_nle (a := 31) (by decide) z) ?_)
      · unfold wpY_ask
        exact yy_isQ hq (br_f (by decide) (br_t y ⟨rfl, tj_rel hI⟩))
      · unfold wpY_ask
        exact yy_isQ hq (br_f (by decide) (br_f y (br_f (tj_nle (a := 31) (by decide) z) ⟨rfl, tj_rel hI⟩)))
    · subst e
      have eu : upd (tj_A ak) (nI q).toNatClampNeg (nI s) = tj_A (tj_u ak q s) := by rw [nI_clamp (by omega), tj_A_u]
      refine br_f (nI_pos (by omega)) (br_t (nI_le (b := 31) (by omega) (by decide)) ⟨vp_in_nI hq (by decide), nm_r eu ?_⟩)
      unfold wpY_ask
      refine yy_isQ hq (br_f (by decide) (br_f (nI_pos (by omega)) (br_t (nI_le (b := 31) (by omega) (by decide)) ⟨vp_in_nI hq (by decide), nm_r eu ⟨rfl, tj_rel ⟨hI.1, hI.2.1, hI.2.2.1, fun p hp => ?_, hI.2.2.2.2⟩⟩⟩)))
      by_cases e : p = q
      · subst e; rw [tj_u_s]; exact hs
      · rw [tj_u_n e]; exact hI.2.2.2.1 p hp
  · refine xx_nQ (fun j hj e => hq ⟨j, hj, e⟩) (br_t rfl ?_)
    unfold wpY_ask
    exact yy_nQ (fun j hj e => hq ⟨j, hj, e⟩) (br_t rfl ⟨rfl, tj_rel hI⟩)
theorem i_vc_atom {k : Nat} {u : SX} {v : SY} (I : i_Rel k u v) (hk : k + 4 ≤ 2048) (v1 : Int32) (v2 : Int32) (v3 : Int32) : wpX_atom (fun r u' => wpY_atom (fun r' v' => r' = r ∧ i_Rel (k + 4) u' v') v v1 v2 v3) u v1 v2 v3 := by
  obtain ⟨th, cn, ak, rl, vr, lv, B, W, G, A, M, D, E, rfl, rfl, hI⟩ := I
  unfold wpX_atom
  by_cases hq : ∃ q, q < 2 ∧ v1 = nI q
  · obtain ⟨q, hq, rfl⟩ := hq
    refine xx_isQ hq (br_f (by decide) ?_)
    by_cases hr : ∃ r vs, r < 3 ∧ vs < tj_n r ∧ v2 = nI r ∧ v3 = nI vs
    · obtain ⟨r, vs, hr, hv, rfl, rfl⟩ := hr
      have c4 := hI.2.2.1 q hq
      refine xx_isRow hr hv (br_f (by decide) ⟨vp_in_nI hq (by decide), ?_⟩)
      rw [nI_clamp (n := q) (by omega), tj_Ap]
      refine pk_lt (cn q) 4 (fun lt => ⟨vp_in_nI hq (by decide), ?_⟩) (fun ge => ?_)
      · rw [tj_e4]
        refine xx_put (by omega) hr hv hI.2.2.2.2.1 (fun W' ha' => ⟨vp_in_nI hq (by decide), vp_in_nI hq (by decide), nm_r (e' := tj_A (tj_u cn q (cn q + 1))) (by rw [tj_Ap, nI_1, tj_A_u]) ⟨vp_in_nI hq (by decide), ?_⟩⟩)
        rw [tj_Ap, tj_u_s]
        unfold wpY_atom
        refine yy_isQ hq (br_f (by decide) (yy_isRow hr hv (br_f (by decide) ⟨vp_in_nI hq (by decide), ?_⟩)))
        rw [nI_clamp (n := q) (by omega), tj_Ap]
        have e4 := tj_f4 q (cn q)
        refine pk_eq (cn q) 4 (fun e => absurd e (by omega)) (fun e => ⟨vp_in_nI hq (by decide), pk_in (4 * q + cn q) 8 (by omega) e4, nm_r (e' := tj_A (tj_u rl (4 * q + cn q) r)) (by rw [e4, nI_clamp (by omega), tj_A_u]) ⟨vp_in_nI hq (by decide), pk_in (4 * q + cn q) 8 (by omega) e4, nm_r (e' := tj_A (tj_u vr (4 * q + cn q) vs)) (by rw [e4, nI_clamp (by omega), tj_A_u]) ⟨vp_in_nI hq (by decide), vp_in_nI hq (by decide), nm_r (e' := tj_A (tj_u cn q (cn q + 1))) (by rw [nI_1, tj_A_u]) ⟨vp_in_nI hq (by decide), ?_, tj_rel ⟨hI.1, hI.2.1, fun p hp => ?_, hI.2.2.2.1, ha', hI.2.2.2.2.2⟩⟩⟩⟩⟩)
        · rw [tj_Ap, tj_u_s]
        · by_cases e : p = q
          · subst e; rw [tj_u_s]; omega
          · rw [tj_u_n e]; exact hI.2.2.1 p hp
      · unfold wpY_atom
        refine yy_isQ hq (br_f (by decide) (yy_isRow hr hv (br_f (by decide) ⟨vp_in_nI hq (by decide), ?_⟩)))
        rw [nI_clamp (n := q) (by omega), tj_Ap]
        exact pk_eq (cn q) 4 (fun e => ⟨rfl, tj_rel hI⟩) (fun e => absurd (show cn q = 4 by omega) e)
    · have hn : ∀ a b, a < 3 → b < tj_n a → v2 = nI a → v3 ≠ nI b := fun a b ha hb e1 e2 => hr ⟨a, b, ha, hb, e1, e2⟩
      refine xx_nRow hn (br_t rfl ?_)
      unfold wpY_atom
      exact yy_isQ hq (br_f (by decide) (yy_nRow hn (br_t rfl ⟨rfl, tj_rel hI⟩)))
  · refine xx_nQ (fun j hj e => hq ⟨j, hj, e⟩) (br_t rfl ?_)
    unfold wpY_atom
    exact yy_nQ (fun j hj e => hq ⟨j, hj, e⟩) (br_t rfl ⟨rfl, tj_rel hI⟩)
theorem i_vc_cut {k : Nat} {u : SX} {v : SY} (I : i_Rel k u v) (hk : k + 4 ≤ 2048) (v1 : Int32) (v2 : Int32) : wpX_cut (fun r u' => wpY_cut (fun r' v' => r' = r ∧ i_Rel (k + 4) u' v') v v1 v2) u v1 v2 := by
  obtain ⟨th, cn, ak, rl, vr, lv, B, W, G, A, M, D, E, rfl, rfl, hI⟩ := I
  unfold wpX_cut
  by_cases hq : ∃ q, q < 2 ∧ v1 = nI q
  · obtain ⟨q, hq, rfl⟩ := hq
    have c4 := hI.2.2.1 q hq
    refine xx_isQ hq (br_f (by decide) ?_)
    rcases pk_ix v2 (n := cn q) (by omega) with z | z | ⟨i, hi, e⟩
    · refine br_t z ?_
      unfold wpY_cut
      exact yy_isQ hq (br_f (by decide) (br_t z ⟨rfl, tj_rel hI⟩))
    · have bad : wpY_cut (fun r' v' => r' = -1 ∧ i_Rel (k + 4) (nI lv, B, tj_A cn, tj_A ak, tj_A rl, tj_A vr, W, G, A, M) v') (tj_T th, tj_A cn, tj_A rl, tj_A vr, tj_A ak, D, E) (nI q) v2 := by
        unfold wpY_cut
        refine yy_isQ hq (br_f (by decide) (br_c (fun y => ⟨rfl, tj_rel hI⟩) (fun y => ⟨vp_in_nI hq (by decide), ?_⟩)))
        rw [nI_clamp (n := q) (by omega), tj_Ap]
        exact br_f (Int32.not_lt.mpr z) ⟨rfl, tj_rel hI⟩
      refine br_c (fun y => bad) (fun y => ⟨vp_in_nI hq (by decide), ?_⟩)
      rw [nI_clamp (n := q) (by omega), tj_Ap]
      exact br_f (Int32.not_lt.mpr z) bad
    · subst e
      refine br_f (nI_pos (by omega)) ⟨vp_in_nI hq (by decide), ?_⟩
      rw [nI_clamp (n := q) (by omega), tj_Ap]
      refine br_t (nI_lt hi (by omega)) ⟨vp_in_nI hq (by decide), nm_r (tj_s1 (by omega)) ⟨cn q + 1, ?_⟩⟩
      refine xx_cut_l (i := i) hq (by omega) (by omega) (fun W' ha' => ?_) _ 0 W (by omega) (by omega) hI.2.2.2.2.1
      unfold wpY_cut
      refine yy_isQ hq (br_f (by decide) (br_f (nI_pos (by omega)) ⟨vp_in_nI hq (by decide), ?_⟩))
      rw [nI_clamp (n := q) (by omega), tj_Ap]
      refine br_t (nI_lt hi (by omega)) (nm_r (tj_f4 q i) ⟨cn q + 1, ?_⟩)
      refine yy_cut_l (i := i) hq c4 hi ⟨rfl, tj_rel ⟨hI.1, hI.2.1, fun p hp => ?_, hI.2.2.2.1, ha', hI.2.2.2.2.2⟩⟩ _ 0 (by omega) (by omega)
      by_cases e : p = q
      · subst e; rw [tj_u_s]; omega
      · rw [tj_u_n e]; exact hI.2.2.1 p hp
  · refine xx_nQ (fun j hj e => hq ⟨j, hj, e⟩) (br_t rfl ?_)
    unfold wpY_cut
    exact yy_nQ (fun j hj e => hq ⟨j, hj, e⟩) (br_t rfl ⟨rfl, tj_rel hI⟩)
theorem i_vc_add {k : Nat} {u : SX} {v : SY} (I : i_Rel k u v) (hk : k + 4 ≤ 2048) (v1 : Int32) (v2 : Int32) : wpX_add (fun r u' => wpY_add (fun r' v' => r' = r ∧ i_Rel (k + 4) u' v') v v1 v2) u v1 v2 := by
  obtain ⟨th, cn, ak, rl, vr, lv, B, W, G, A, M, D, E, rfl, rfl, hI⟩ := I
  unfold wpX_add
  by_cases hr : ∃ r row, r < 3 ∧ row < tj_n r ∧ v1 = nI r ∧ v2 = nI row
  · obtain ⟨r, row, hr, hw, rfl, rfl⟩ := hr
    have h375 := tj_LY_lt hr hw
    have llt : tj_LX r row < 468 := by
      unfold tj_LX
      rcases tj_on r with ⟨_, _, _, _⟩ | ⟨_, _, _, _⟩ <;> omega
    have eB : B (tj_LX r row) = _ := tj_Bl_leaf hI.1 hr hw
    have k16 := hI.2.1 r hr
    refine xx_isRow hr hw (br_f (by decide) (xx_leaf hr ⟨vp_in_nI llt (by decide), ?_⟩))
    rw [nI_clamp (n := tj_LX r row) (by omega), eB, tj_q156, nI_clamp (n := 156 * r) (by omega), tj_Bl_root hI.1 hr]
    cases ht : th (125 * r + row) with
    | true =>
      refine br_f (by decide) ?_
      unfold wpY_add
      refine yy_isRow hr hw (br_f (by decide) ⟨pk_in (125 * r + row) 375 h375 (tj_e125 r row), ?_⟩)
      rw [tj_e125, nI_clamp (by omega)]
      exact br_f (fun e => by rw [tj_T_f.mp e] at ht; exact absurd ht (by decide)) ⟨rfl, tj_rel hI⟩
    | false =>
      refine br_t (by decide) ⟨pk_in (156 * r) 468 (by omega), pk_lt (tj_k th (125 * r) 125) 16 (fun lt => ?_) (fun ge => ?_)⟩
      · refine xx_path (th' := tj_p th (125 * r + row) true) hI.1 hr hw (fun lo n h1 h2 => by rw [nI_1, tj_k_in ht h1 h2]) (fun lo n h => tj_k_out h) (fun j hj => tj_p_n hj) (fun B' hB' => ?_)
        unfold wpY_add
        refine yy_isRow hr hw (br_f (by decide) ⟨pk_in (125 * r + row) 375 h375 (tj_e125 r row), ?_⟩)
        rw [tj_e125, nI_clamp (by omega)]
        refine br_t (tj_T_f.mpr ht) (yy_rows hr (pk_eq (tj_k th (125 * r) 125) 16 (fun e => absurd e (by omega)) (fun e => ⟨vp_in_nI h375 (by decide), nm_r (e' := tj_T (tj_p th (125 * r + row) true)) (by rw [tj_vb1, tj_T_u]) ⟨rfl, tj_rel ⟨hB', fun p hp => ?_, hI.2.2⟩⟩⟩)))
        by_cases e : p = r
        · subst e
          have n5 : tj_n p ≤ 125 := by rcases tj_on p with ⟨_, _, _, _⟩ | ⟨_, _, _, _⟩ <;> omega
          rw [tj_k_in ht (by omega) (by omega)]
          omega
        · have n5 : tj_n r ≤ 125 := by rcases tj_on r with ⟨_, _, _, _⟩ | ⟨_, _, _, _⟩ <;> omega
          rw [tj_k_out (by omega)]
          exact hI.2.1 p hp
      · unfold wpY_add
        refine yy_isRow hr hw (br_f (by decide) ⟨pk_in (125 * r + row) 375 h375 (tj_e125 r row), ?_⟩)
        rw [tj_e125, nI_clamp (by omega)]
        exact br_t (tj_T_f.mpr ht) (yy_rows hr (pk_eq (tj_k th (125 * r) 125) 16 (fun e => ⟨rfl, tj_rel hI⟩) (fun e => absurd (show tj_k th (125 * r) 125 = 16 by omega) e)))
  · have hn : ∀ a b, a < 3 → b < tj_n a → v1 = nI a → v2 ≠ nI b := fun a b ha hb e1 e2 => hr ⟨a, b, ha, hb, e1, e2⟩
    refine xx_nRow hn (br_t rfl ?_)
    unfold wpY_add
    exact yy_nRow hn (br_t rfl ⟨rfl, tj_rel hI⟩)
theorem i_vc_remove {k : Nat} {u : SX} {v : SY} (I : i_Rel k u v) (hk : k + 4 ≤ 2048) (v1 : Int32) (v2 : Int32) : wpX_remove (fun r u' => wpY_remove (fun r' v' => r' = r ∧ i_Rel (k + 4) u' v') v v1 v2) u v1 v2 := by
  obtain ⟨th, cn, ak, rl, vr, lv, B, W, G, A, M, D, E, rfl, rfl, hI⟩ := I
  unfold wpX_remove
  by_cases hr : ∃ r row, r < 3 ∧ row < tj_n r ∧ v1 = nI r ∧ v2 = nI row
  · obtain ⟨r, row, hr, hw, rfl, rfl⟩ := hr
    have h375 := tj_LY_lt hr hw
    have llt : tj_LX r row < 468 := by
      unfold tj_LX
      rcases tj_on r with ⟨_, _, _, _⟩ | ⟨_, _, _, _⟩ <;> omega
    have eB : B (tj_LX r row) = _ := tj_Bl_leaf hI.1 hr hw
    refine xx_isRow hr hw (br_f (by decide) (xx_leaf hr ⟨vp_in_nI llt (by decide), ?_⟩))
    rw [nI_clamp (n := tj_LX r row) (by omega), eB]
    cases ht : th (125 * r + row) with
    | true =>
      refine br_f (by decide) (xx_path (th' := tj_p th (125 * r + row) false) hI.1 hr hw (fun lo n h1 h2 => by rw [← tj_k_off ht h1 h2, pk_m1]) (fun lo n h => tj_k_out h) (fun j hj => tj_p_n hj) (fun B' hB' => ?_))
      unfold wpY_remove
      refine yy_isRow hr hw (br_f (by decide) ⟨pk_in (125 * r + row) 375 h375 (tj_e125 r row), ?_⟩)
      rw [tj_e125, nI_clamp (by omega)]
      refine nm_e ⟨vp_in_nI h375 (by decide), nm_r (e' := tj_T (tj_p th (125 * r + row) false)) (by rw [tj_vb0, tj_T_c]) (br_f (fun e => by rw [tj_T_f.mp e] at ht; exact absurd ht (by decide)) ⟨rfl, tj_rel ⟨hB', fun p hp => ?_, hI.2.2⟩⟩)⟩
      have n5 : tj_n r ≤ 125 := by rcases tj_on r with ⟨_, _, _, _⟩ | ⟨_, _, _, _⟩ <;> omega
      have k16 := hI.2.1 p hp
      by_cases e : p = r
      · subst e
        have := tj_k_off ht (lo := 125 * p) (n := 125) (by omega) (by omega)
        omega
      · rw [tj_k_out (by omega)]
        exact k16
    | false =>
      refine br_t rfl ?_
      unfold wpY_remove
      refine yy_isRow hr hw (br_f (by decide) ⟨pk_in (125 * r + row) 375 h375 (tj_e125 r row), ?_⟩)
      rw [tj_e125, nI_clamp (by omega)]
      have eth : tj_p th (125 * r + row) false = th := by
        funext j
        by_cases e : j = 125 * r + row
        · rw [e, tj_p_s, ht]
        · rw [tj_p_n e]
      exact nm_e ⟨vp_in_nI h375 (by decide), nm_r (e' := tj_T th) (by rw [tj_vb0, tj_T_c, eth]) (br_t (tj_T_f.mpr ht) ⟨rfl, tj_rel hI⟩)⟩
  · have hn : ∀ a b, a < 3 → b < tj_n a → v1 = nI a → v2 ≠ nI b := fun a b ha hb e1 e2 => hr ⟨a, b, ha, hb, e1, e2⟩
    refine xx_nRow hn (br_t rfl ?_)
    unfold wpY_remove
    exact yy_nRow hn (br_t rfl ⟨rfl, tj_rel hI⟩)
