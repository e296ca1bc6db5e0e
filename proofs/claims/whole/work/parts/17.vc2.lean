/-! the calls that ask -/
theorem tj_Hne {rl vr : Nat → Nat} {q : Nat} : ∀ s i, tj_H rl vr q s i → tj_mi s (2 ^ i) ≠ 0 := by
  rintro s i ⟨j, _, hb, _⟩ e
  rw [e, Nat.zero_testBit] at hb
  exact absurd hb (by decide)
theorem i_vc_whole {k : Nat} {u : SX} {v : SY} (I : i_Rel k u v) (hk : k + 4 ≤ 2048) (v1 : Int32) : wpX_whole (fun r => wpY_whole (fun r' => r' = r ∧ i_Rel (k + 4) u v) v v1) u v1 := by
  obtain ⟨th, cn, ak, rl, vr, lv, B, W, G, A, M, D, E, rfl, rfl, hI⟩ := I
  unfold wpX_whole
  by_cases hq : ∃ q, q < 2 ∧ v1 = nI q
  · obtain ⟨q, hq, rfl⟩ := hq
    have c4 := hI.2.2.1 q hq
    have k5 := hI.2.2.2.1 q hq
    have ha := hI.2.2.2.2.1
    exact xx_isQ hq (br_f (by decide) (xx_isWhole hq c4 k5 ha (fun w => br_f (by decide) (yy_whole hq c4 k5 (tj_At_y ha) (fun _ => ⟨rfl, tj_rel hI⟩) (fun n => absurd w n))) (fun w => br_t rfl (yy_whole hq c4 k5 (tj_At_y ha) (fun y => absurd y w) (fun _ => ⟨rfl, tj_rel hI⟩)))))
  · refine xx_nQ (fun j hj e => hq ⟨j, hj, e⟩) (br_t rfl ?_)
    unfold wpY_whole
    exact yy_nQ (fun j hj e => hq ⟨j, hj, e⟩) (br_t rfl ⟨rfl, tj_rel hI⟩)
theorem i_vc_count {k : Nat} {u : SX} {v : SY} (I : i_Rel k u v) (hk : k + 4 ≤ 2048) (v1 : Int32) : wpX_count (fun r u' => wpY_count (fun r' v' => r' = r ∧ i_Rel (k + 4) u' v') v v1) u v1 := by
  obtain ⟨th, cn, ak, rl, vr, lv, B, W, G, A, M, D, E, rfl, rfl, hI⟩ := I
  unfold wpX_count
  by_cases hq : ∃ q, q < 2 ∧ v1 = nI q
  · obtain ⟨q, hq, rfl⟩ := hq
    have c4 := hI.2.2.1 q hq
    have k5 := hI.2.2.2.1 q hq
    have ha := hI.2.2.2.2.1
    have hl := hI.2.2.2.2.2
    refine xx_isQ hq (br_f (by decide) (xx_isWhole hq c4 k5 ha (fun w => br_f (by decide) (xx_try hq c4 k5 hl hI.1 ha (fun G A M hA hM => ⟨3126, xx_count_l ?_ 3126 0 (by omega) (by omega)⟩))) (fun w => br_t rfl ?_)))
    · unfold wpY_count
      refine yy_isQ hq (br_f (by decide) (yy_whole hq c4 k5 (tj_At_y ha) (fun _ => br_f (by decide) (yy_try hq c4 k5 (tj_At_y ha) (fun D E hD hE => ⟨3126, yy_count_l ⟨?_, tj_rel hI⟩ 3126 0 (by omega) (by omega)⟩))) (fun n => absurd w n)))
      have e := tj_B_eq hA hD
      exact congrArg nI (tj_k_eq (fun j _ hj => by unfold tj_m; rw [e j (by omega)])).symm
    · unfold wpY_count
      exact yy_isQ hq (br_f (by decide) (yy_whole hq c4 k5 (tj_At_y ha) (fun y => absurd y w) (fun _ => br_t rfl ⟨rfl, tj_rel hI⟩)))
  · refine xx_nQ (fun j hj e => hq ⟨j, hj, e⟩) (br_t rfl ?_)
    unfold wpY_count
    exact yy_nQ (fun j hj e => hq ⟨j, hj, e⟩) (br_t rfl ⟨rfl, tj_rel hI⟩)
theorem i_vc_answer {k : Nat} {u : SX} {v : SY} (I : i_Rel k u v) (hk : k + 4 ≤ 2048) (v1 : Int32) (v2 : Int32) : wpX_answer (fun r u' => wpY_answer (fun r' v' => r' = r ∧ i_Rel (k + 4) u' v') v v1 v2) u v1 v2 := by
  obtain ⟨th, cn, ak, rl, vr, lv, B, W, G, A, M, D, E, rfl, rfl, hI⟩ := I
  unfold wpX_answer
  by_cases hq : ∃ q, q < 2 ∧ v1 = nI q
  · obtain ⟨q, hq, rfl⟩ := hq
    have c4 := hI.2.2.1 q hq
    have k5 := hI.2.2.2.1 q hq
    have ha := hI.2.2.2.2.1
    have hl := hI.2.2.2.2.2
    refine xx_isQ hq (br_f (by decide) (xx_isWhole hq c4 k5 ha (fun w => br_f (by decide) (br_c (fun p => xx_try hq c4 k5 hl hI.1 ha (fun G A M hA hM => ⟨3126, xx_answer_l 3126 0 0 (by omega) (by omega) ?_⟩)) (fun p => ?_))) (fun w => br_t rfl ?_)))
    · unfold wpY_answer
      refine yy_isQ hq (br_f (by decide) (yy_whole hq c4 k5 (tj_At_y ha) (fun _ => br_f (by decide) (yy_try hq c4 k5 (tj_At_y ha) (fun D E hD hE => ⟨3126, yy_answer_l 3126 0 0 (by omega) (by omega) ⟨?_, tj_rel hI⟩⟩))) (fun n => absurd w n)))
      exact tj_fa_eq (tj_B_eq hD hA) _ _ _ (by omega)
    · unfold wpY_answer
      refine yy_isQ hq (br_f (by decide) (yy_whole hq c4 k5 (tj_At_y ha) (fun _ => br_f (by decide) (yy_try hq c4 k5 (tj_At_y ha) (fun D E hD hE => ⟨3126, yy_answer_l 3126 0 0 (by omega) (by omega) ⟨?_, tj_rel hI⟩⟩))) (fun n => absurd w n)))
      exact tj_fa_neg (Int32.not_le.mp p) _ _ _ (by decide)
    · unfold wpY_answer
      exact yy_isQ hq (br_f (by decide) (yy_whole hq c4 k5 (tj_At_y ha) (fun y => absurd y w) (fun _ => br_t rfl ⟨rfl, tj_rel hI⟩)))
  · refine xx_nQ (fun j hj e => hq ⟨j, hj, e⟩) (br_t rfl ?_)
    unfold wpY_answer
    exact yy_nQ (fun j hj e => hq ⟨j, hj, e⟩) (br_t rfl ⟨rfl, tj_rel hI⟩)
theorem i_vc_often {k : Nat} {u : SX} {v : SY} (I : i_Rel k u v) (hk : k + 4 ≤ 2048) (v1 : Int32) (v2 : Int32) (v3 : Int32) : wpX_often (fun r u' => wpY_often (fun r' v' => r' = r ∧ i_Rel (k + 4) u' v') v v1 v2 v3) u v1 v2 v3 := by
  obtain ⟨th, cn, ak, rl, vr, lv, B, W, G, A, M, D, E, rfl, rfl, hI⟩ := I
  unfold wpX_often
  by_cases hq : ∃ q, q < 2 ∧ v1 = nI q
  · obtain ⟨q, hq, rfl⟩ := hq
    have c4 := hI.2.2.1 q hq
    have k5 := hI.2.2.2.1 q hq
    have ha := hI.2.2.2.2.1
    have hl := hI.2.2.2.2.2
    refine xx_isQ hq (br_f (by decide) ?_)
    rcases pk_ix v2 (n := 5) (by decide) with z | z | ⟨w, hw, e⟩
    · refine br_t z ?_
      unfold wpY_often
      exact yy_isQ hq (br_f (by decide) (br_t z ⟨rfl, tj_rel hI⟩))
    · have bad : wpY_often (fun r' v' => r' = -1 ∧ i_Rel (k + 4) (nI lv, B, tj_A cn, tj_A ak, tj_A rl, tj_A vr, W, G, A, M) v') (tj_T th, tj_A cn, tj_A rl, tj_A vr, tj_A ak, D, E) (nI q) v2 v3 := by
        unfold wpY_often
        exact yy_isQ hq (br_f (by decide) (br_c (fun y => ⟨rfl, tj_rel hI⟩) (fun y => br_t (tj_lt_le (a := 4) (by decide) z) ⟨rfl, tj_rel hI⟩)))
      exact br_c (fun y => bad) (fun y => br_t z bad)
    · subst e
      refine br_f (nI_pos (by omega)) (br_f (nI_ge (b := 5) hw (by decide)) ?_)
      rcases pk_ix v3 (n := 5) (by decide) with z | z | ⟨x, hx, e⟩
      · refine br_t z ?_
        unfold wpY_often
        exact yy_isQ hq (br_f (by decide) (br_f (nI_pos (by omega)) (br_f (nI_nlt (a := 4) (by omega) (by decide)) (br_t z ⟨rfl, tj_rel hI⟩))))
      · have bad : wpY_often (fun r' v' => r' = -1 ∧ i_Rel (k + 4) (nI lv, B, tj_A cn, tj_A ak, tj_A rl, tj_A vr, W, G, A, M) v') (tj_T th, tj_A cn, tj_A rl, tj_A vr, tj_A ak, D, E) (nI q) (nI w) v3 := by
          unfold wpY_often
          exact yy_isQ hq (br_f (by decide) (br_f (nI_pos (by omega)) (br_f (nI_nlt (a := 4) (by omega) (by decide)) (br_c (fun y => ⟨rfl, tj_rel hI⟩) (fun y => br_f (tj_nle (a := 4) (by decide) z) ⟨rfl, tj_rel hI⟩)))))
        exact br_c (fun y => bad) (fun y => br_f (Int32.not_lt.mpr z) bad)
      · subst e
        have yst : ∀ (r : Int32) (G A M : Nat → Int32), (tj_wh cn ak rl vr q → (ak q).testBit w = true → ∀ D : Nat → Int32, tj_B D (tj_PA th rl vr (4 * q) (cn q) (ak q) 3125) 3125 → nI (tj_k (fun a => tj_m D a && decide (a / 5 ^ (tj_k (fun w => (ak q).testBit w) (w + 1) (4 - w)) % 5 = x)) 0 3125) = r) → (¬ (tj_wh cn ak rl vr q ∧ (ak q).testBit w = true) → -3 = r) →
            wpY_often (fun r' v' => r' = r ∧ i_Rel (k + 4) (nI lv, B, tj_A cn, tj_A ak, tj_A rl, tj_A vr, W, G, A, M) v') (tj_T th, tj_A cn, tj_A rl, tj_A vr, tj_A ak, D, E) (nI q) (nI w) (nI x) := by
          intro r G A M g1 g0
          unfold wpY_often
          refine yy_isQ hq (br_f (by decide) (br_f (nI_pos (by omega)) (br_f (nI_nlt (a := 4) (by omega) (by decide)) (br_f (nI_pos (by omega)) (br_t (nI_le (b := 4) (by omega) (by decide)) (yy_whole hq c4 k5 (tj_At_y ha) (fun wh => br_f (by decide) ⟨vp_in_nI hq (by decide), ?_⟩) (fun wh => br_t rfl ⟨g0 (fun y => wh y.1), tj_rel hI⟩)))))))
          rw [nI_clamp (n := q) (by omega), tj_Ap]
          refine yy_in (by omega) (by omega) (fun hb => br_f (by decide) (yy_try hq c4 k5 (tj_At_y ha) (fun D E hD hE => nm_r (nI_1 w) ⟨6, yy_often66 hq k5 hw hx ⟨g1 wh hb D hD, tj_rel hI⟩ 6 0 (by omega) (by omega)⟩))) (fun hb => br_t rfl ⟨g0 (fun y => ?_), tj_rel hI⟩)
          rw [hb] at y
          exact absurd y.2 (by decide)
        refine br_f (nI_pos (by omega)) (br_t (nI_lt (b := 5) hx (by decide)) (xx_isWhole hq c4 k5 ha (fun wh => br_f (by decide) ⟨vp_in_nI hq (by decide), ?_⟩) (fun wh => br_t rfl (yst _ G A M (fun y => absurd y wh) (fun _ => rfl)))))
        rw [nI_clamp (n := q) (by omega), tj_Ap]
        have kl := tj_k_le (fun w => (ak q).testBit w) (w + 1) (4 - w)
        refine xx_has (by omega) (by omega) (fun hb => br_f (by decide) (xx_try hq c4 k5 hl hI.1 ha (fun G A M hA hM => xx_after hq k5 hw ⟨3126, xx_often_l hx (by omega) (yst _ G A M (fun _ _ D hD => ?_) (fun n => absurd ⟨wh, hb⟩ n)) 3126 0 (by omega) (by omega)⟩))) (fun hb => br_t rfl (yst _ G A M (fun _ y => by rw [hb] at y; exact absurd y (by decide)) (fun _ => rfl)))
        exact congrArg nI (tj_m_eq (tj_B_eq hD hA) _)
  · refine xx_nQ (fun j hj e => hq ⟨j, hj, e⟩) (br_t rfl ?_)
    unfold wpY_often
    exact yy_nQ (fun j hj e => hq ⟨j, hj, e⟩) (br_t rfl ⟨rfl, tj_rel hI⟩)
theorem i_vc_idle {k : Nat} {u : SX} {v : SY} (I : i_Rel k u v) (hk : k + 4 ≤ 2048) (v1 : Int32) : wpX_idle (fun r u' => wpY_idle (fun r' v' => r' = r ∧ i_Rel (k + 4) u' v') v v1) u v1 := by
  obtain ⟨th, cn, ak, rl, vr, lv, B, W, G, A, M, D, E, rfl, rfl, hI⟩ := I
  unfold wpX_idle
  by_cases hq : ∃ q, q < 2 ∧ v1 = nI q
  · obtain ⟨q, hq, rfl⟩ := hq
    have c4 := hI.2.2.1 q hq
    have k5 := hI.2.2.2.1 q hq
    have ha := hI.2.2.2.2.1
    have hl := hI.2.2.2.2.2
    refine xx_isQ hq (br_f (by decide) ⟨vp_in_nI hq (by decide), ?_⟩)
    rw [nI_clamp (n := q) (by omega), tj_Ap]
    refine pk_eq (cn q) 0 (fun e => ?_) (fun e => ?_)
    · unfold wpY_idle
      refine yy_isQ hq (br_f (by decide) ⟨vp_in_nI hq (by decide), ?_⟩)
      rw [nI_clamp (n := q) (by omega), tj_Ap]
      exact pk_eq (cn q) 0 (fun _ => ⟨rfl, tj_rel hI⟩) (fun y => absurd e y)
    · refine xx_try hq c4 k5 hl hI.1 ha (fun G A M hA hM => xx_idle30 (a := tj_k th 0 125) (b := tj_k th 125 125) (c := tj_k th 250 125) (tj_Bl_root hI.1 (r := 0) (by decide)) (tj_Bl_root hI.1 (r := 1) (by decide)) (tj_Bl_root hI.1 (r := 2) (by decide)) ?_)
      unfold wpY_idle
      refine yy_isQ hq (br_f (by decide) ⟨vp_in_nI hq (by decide), ?_⟩)
      rw [nI_clamp (n := q) (by omega), tj_Ap]
      refine pk_eq (cn q) 0 (fun y => absurd y e) (fun _ => yy_try hq c4 k5 (tj_At_y ha) (fun D E hD hE => ⟨376, yy_idle_l ⟨?_, tj_rel hI⟩ 376 0 (by omega) (by omega)⟩))
      have id := tj_idle (fun i hi => (ha (4 * q + i) (by omega)).1) hM hE
      rw [pk_sub (by omega)]
      exact congrArg nI (by omega)
  · refine xx_nQ (fun j hj e => hq ⟨j, hj, e⟩) (br_t rfl ?_)
    unfold wpY_idle
    exact yy_nQ (fun j hj e => hq ⟨j, hj, e⟩) (br_t rfl ⟨rfl, tj_rel hI⟩)
theorem i_vc_treeLike {k : Nat} {u : SX} {v : SY} (I : i_Rel k u v) (hk : k + 4 ≤ 2048) (v1 : Int32) : wpX_treeLike (fun r => wpY_treeLike (fun r' => r' = r ∧ i_Rel (k + 4) u v) v v1) u v1 := by
  obtain ⟨th, cn, ak, rl, vr, lv, B, W, G, A, M, D, E, rfl, rfl, hI⟩ := I
  unfold wpX_treeLike
  by_cases hq : ∃ q, q < 2 ∧ v1 = nI q
  · obtain ⟨q, hq, rfl⟩ := hq
    have c4 := hI.2.2.1 q hq
    have ha := hI.2.2.2.2.1
    obtain ⟨p1, p2, p3⟩ := tj_p1 c4
    refine xx_isQ hq (br_f (by decide) (xx_all hq c4 ⟨5, xx_tree_l hq ha 5 0 _ (by omega) (by omega) (by omega) (fun eX hX => ?_)⟩))
    have key : ∀ r : Int32, (∀ eY, tj_chn (tj_SY (tj_H rl vr q)) 4 (2 ^ cn q - 1) eY → (tj_s eY ≤ 1 → 1 = r) ∧ (¬ tj_s eY ≤ 1 → 0 = r)) → wpY_treeLike (fun r' => r' = r ∧ i_Rel (k + 4) (nI lv, B, tj_A cn, tj_A ak, tj_A rl, tj_A vr, W, G, A, M) (tj_T th, tj_A cn, tj_A rl, tj_A vr, tj_A ak, D, E)) (tj_T th, tj_A cn, tj_A rl, tj_A vr, tj_A ak, D, E) (nI q) := by
      intro r hr
      unfold wpY_treeLike
      exact yy_isQ hq (br_f (by decide) (yy_all hq c4 ⟨5, yy_tree_l hq c4 (tj_At_y ha) 5 0 _ (by omega) (by omega) p1 (fun eY hY => ⟨fun a => ⟨(hr eY hY).1 a, tj_rel hI⟩, fun a => ⟨(hr eY hY).2 a, tj_rel hI⟩⟩)⟩))
    have tr : ∀ eY, tj_chn (tj_SY (tj_H rl vr q)) 4 (2 ^ cn q - 1) eY → (eX = 0 ↔ tj_s eY ≤ 1) := fun eY hY => tj_tree tj_Hne 4 _ eX eY (by omega) (tj_s_le _ (by omega)) hX hY
    exact ⟨fun e => key 1 (fun eY hY => ⟨fun _ => rfl, fun n => absurd ((tr eY hY).mp e) n⟩), fun e => key 0 (fun eY hY => ⟨fun y => absurd ((tr eY hY).mpr y) e, fun _ => rfl⟩)⟩
  · refine xx_nQ (fun j hj e => hq ⟨j, hj, e⟩) (br_t rfl ?_)
    unfold wpY_treeLike
    exact yy_nQ (fun j hj e => hq ⟨j, hj, e⟩) (br_t rfl ⟨rfl, tj_rel hI⟩)
theorem i_vc_smallest {k : Nat} {u : SX} {v : SY} (I : i_Rel k u v) (hk : k + 4 ≤ 2048) (v1 : Int32) : wpX_smallest (fun r u' => wpY_smallest (fun r' => r' = r ∧ i_Rel (k + 4) u' v) v v1) u v1 := by
  obtain ⟨th, cn, ak, rl, vr, lv, B, W, G, A, M, D, E, rfl, rfl, hI⟩ := I
  unfold wpX_smallest
  by_cases hq : ∃ q, q < 2 ∧ v1 = nI q
  · obtain ⟨q, hq, rfl⟩ := hq
    have c4 := hI.2.2.1 q hq
    have k5 := hI.2.2.2.1 q hq
    have ha := hI.2.2.2.2.1
    refine xx_isQ hq (br_f (by decide) (xx_isWhole hq c4 k5 ha (fun w => br_f (by decide) ⟨vp_in_nI hq (by decide), nm_r (e' := nI (cn q)) (by rw [nI_clamp (by omega), tj_Ap]) ⟨3126, ?_⟩⟩) (fun w => br_t rfl ?_)))
    · have h0 : 0 < cn q := Nat.pos_of_ne_zero w.1
      obtain ⟨p1, p2, p3⟩ := tj_p1 c4
      refine xx_small_l hq c4 h0 k5 ha (fun x G hx => ?_) 3126 0 (cn q) G (by omega) (by omega) tj_SX_0
      unfold wpY_smallest
      refine yy_isQ hq (br_f (by decide) (yy_whole hq c4 k5 (tj_At_y ha) (fun _ => br_f (by decide) ⟨vp_in_nI hq (by decide), nm_r (e' := nI (cn q)) (by rw [nI_clamp (by omega), tj_Ap]) ⟨2 ^ cn q + 1, ?_⟩⟩) (fun n => absurd w n)))
      refine yy_small_l hq c4 k5 (tj_At_y ha) (fun y hy => ⟨?_, tj_rel hI⟩) _ 1 (cn q) (Nat.two_pow_pos _) (by omega) tj_SZ_1
      have vl := tj_vo_lt (f := (fun i => tj_so (rl (4 * q + i)) (vr (4 * q + i)))) (s := 2 ^ cn q - 1) (fun i => tj_so_lt _ _) (cn q)
      exact congrArg nI (tj_smallest c4 h0 ((tj_mi0 _ k5 _ vl).mp w.2) hx hy).symm
    · unfold wpY_smallest
      exact yy_isQ hq (br_f (by decide) (yy_whole hq c4 k5 (tj_At_y ha) (fun y => absurd y w) (fun _ => br_t rfl ⟨rfl, tj_rel hI⟩)))
  · refine xx_nQ (fun j hj e => hq ⟨j, hj, e⟩) (br_t rfl ?_)
    unfold wpY_smallest
    exact yy_nQ (fun j hj e => hq ⟨j, hj, e⟩) (br_t rfl ⟨rfl, tj_rel hI⟩)
theorem yy_within {post : Int32 → Prop} {th : Nat → Bool} {D E : Nat → Int32} {cn ak rl vr : Nat → Nat} {q : Nat} (hq : q < 2) (hc : ∀ q, q < 2 → cn q ≤ 4) (hk : ∀ q, q < 2 → ak q < 32) (ha : tj_Ay rl vr)
    (h1 : tj_wh cn ak rl vr 0 → tj_wh cn ak rl vr 1 → ak 0 = ak 1 → (∃ d, d < 3125 ∧ tj_Into rl vr (ak (1 - q)) (tj_g d) (4 * (1 - q)) (cn (1 - q)) (4 * q) (cn q) (2 ^ cn q - 1)) → post 1)
    (h0 : tj_wh cn ak rl vr 0 → tj_wh cn ak rl vr 1 → ak 0 = ak 1 → ¬ (∃ d, d < 3125 ∧ tj_Into rl vr (ak (1 - q)) (tj_g d) (4 * (1 - q)) (cn (1 - q)) (4 * q) (cn q) (2 ^ cn q - 1)) → post 0)
    (hN : ¬ (tj_wh cn ak rl vr 0 ∧ tj_wh cn ak rl vr 1 ∧ ak 0 = ak 1) → post (-3)) : wpY_within post (tj_T th, tj_A cn, tj_A rl, tj_A vr, tj_A ak, D, E) (nI q) := by
  obtain ⟨p1, p2, p3⟩ := tj_p1 (hc q hq)
  have b0 := hk 0 (by decide)
  have b1 := hk 1 (by decide)
  unfold wpY_within
  refine yy_isQ hq (br_f (by decide) (yy_whole (q := 0) (by decide) (hc 0 (by decide)) b0 ha (fun w0 => br_f (by decide) (yy_whole (q := 1) (by decide) (hc 1 (by decide)) b1 ha (fun w1 => br_f (by decide) (pk_eq (ak 0) (ak 1) (fun e => yy_all hq (hc q hq) ?_) (fun e => hN (fun y => e y.2.2)))) (fun w1 => br_t rfl (hN (fun y => w1 y.2.1))))) (fun w0 => br_t rfl (hN (fun y => w0 y.1)))))
  rw [tj_1s (by omega)]
  exact yy_cm (by omega) hq (hc _ (by omega)) (hc q hq) (hk _ (by omega)) (by omega) ha (fun y => br_f (by decide) (h1 w0 w1 e y)) (fun y => br_t rfl (h0 w0 w1 e y))
theorem i_vc_within {k : Nat} {u : SX} {v : SY} (I : i_Rel k u v) (hk : k + 4 ≤ 2048) (v1 : Int32) : wpX_within (fun r u' => wpY_within (fun r' => r' = r ∧ i_Rel (k + 4) u' v) v v1) u v1 := by
  obtain ⟨th, cn, ak, rl, vr, lv, B, W, G, A, M, D, E, rfl, rfl, hI⟩ := I
  unfold wpX_within
  by_cases hq : ∃ q, q < 2 ∧ v1 = nI q
  · obtain ⟨q, hq, rfl⟩ := hq
    have hc := hI.2.2.1
    have hk5 := hI.2.2.2.1
    have ha := hI.2.2.2.2.1
    have ho : 1 - q < 2 := by omega
    have bq := hk5 q hq
    have bo := hk5 (1 - q) ho
    have all : (tj_wh cn ak rl vr 0 ∧ tj_wh cn ak rl vr 1 ∧ ak 0 = ak 1) ↔ (tj_wh cn ak rl vr q ∧ tj_wh cn ak rl vr (1 - q) ∧ ak q = ak (1 - q)) := by
      have : q = 0 ∨ q = 1 := by omega
      rcases this with rfl | rfl
      · exact Iff.rfl
      · exact ⟨fun ⟨a, b, c⟩ => ⟨b, a, c.symm⟩, fun ⟨a, b, c⟩ => ⟨b, a, c.symm⟩⟩
    have none : ¬ (tj_wh cn ak rl vr q ∧ tj_wh cn ak rl vr (1 - q) ∧ ak q = ak (1 - q)) → wpY_within (fun r' => r' = -3 ∧ i_Rel (k + 4) (nI lv, B, tj_A cn, tj_A ak, tj_A rl, tj_A vr, W, G, A, M) (tj_T th, tj_A cn, tj_A rl, tj_A vr, tj_A ak, D, E)) (tj_T th, tj_A cn, tj_A rl, tj_A vr, tj_A ak, D, E) (nI q) := fun n =>
      yy_within hq hc hk5 (tj_At_y ha) (fun a b c => absurd (all.mp ⟨a, b, c⟩) n) (fun a b c => absurd (all.mp ⟨a, b, c⟩) n) (fun _ => ⟨rfl, tj_rel hI⟩)
    refine xx_isQ hq (br_f (by decide) (nm_r (tj_1s (by omega)) (xx_isWhole hq (hc q hq) bq ha (fun wq => br_f (by decide) (xx_isWhole ho (hc _ ho) bo ha (fun wo => br_f (by decide) ⟨vp_in_nI hq (by decide), vp_in_nI ho (by decide), ?_⟩) (fun wo => br_t rfl (none (fun y => wo y.2.1))))) (fun wq => br_t rfl (none (fun y => wq y.1))))))
    rw [nI_clamp (n := q) (by omega), nI_clamp (n := 1 - q) (by omega)]
    refine pk_eq (ak q) (ak (1 - q)) (fun e => ⟨3126, ?_⟩) (fun e => none (fun y => e y.2.2))
    have aa := all.mpr ⟨wq, wo, e⟩
    refine xx_within_l hq ho (hc q hq) (hc _ ho) (Nat.pos_of_ne_zero wo.1) bo ha (fun y G => ?_) (fun y G => ?_) 3126 0 G (by omega) (by omega) (fun d hd => by omega)
    · exact yy_within hq hc hk5 (tj_At_y ha) (fun _ _ _ _ => ⟨rfl, tj_rel hI⟩) (fun _ _ _ n => absurd y n) (fun n => absurd aa n)
    · exact yy_within hq hc hk5 (tj_At_y ha) (fun _ _ _ n => absurd n y) (fun _ _ _ _ => ⟨rfl, tj_rel hI⟩) (fun n => absurd aa n)
  · refine xx_nQ (fun j hj e => hq ⟨j, hj, e⟩) (br_t rfl ?_)
    unfold wpY_within
    exact yy_nQ (fun j hj e => hq ⟨j, hj, e⟩) (br_t rfl ⟨rfl, tj_rel hI⟩)
