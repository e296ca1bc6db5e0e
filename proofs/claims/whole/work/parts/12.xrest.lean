/-! X: tree-like, scans, least -/
def tj_H (rl vr : Nat → Nat) (q s i : Nat) : Prop := ∃ j, j < 4 ∧ (tj_mi s (2 ^ i)).testBit j = true ∧ tj_mi (tj_so (rl (4 * q + i)) (vr (4 * q + i)) &&& tj_vo (fun i => tj_so (rl (4 * q + i)) (vr (4 * q + i))) (tj_mi s (2 ^ i)) 4) (tj_so (rl (4 * q + j)) (vr (4 * q + j))) = 0
theorem tj_and_lt {a b n : Nat} (h : a < n) : a &&& b < n := Nat.lt_of_le_of_lt Nat.and_le_left h
theorem tj_2p : ∀ i, i < 4 → 2 ^ i < 32 := by decide
theorem tj_k0_t {f : Nat → Bool} {a : Nat} (h : f a = true) : tj_k f 0 (a + 1) = tj_k f 0 a + 1 := by
  show tj_k f 0 a + (if f (0 + a) = true then 1 else 0) = _
  rw [Nat.zero_add, if_pos h]
theorem tj_k0_f {f : Nat → Bool} {a : Nat} (h : ¬ f a = true) : tj_k f 0 (a + 1) = tj_k f 0 a := by
  show tj_k f 0 a + (if f (0 + a) = true then 1 else 0) = _
  rw [Nat.zero_add, if_neg h, Nat.add_zero]
theorem tj_SY_lt {H : Nat → Nat → Prop} {s t : Nat} (hs : s < 16) (h : tj_SY H s t) : t < 16 := by
  rcases h with ⟨i, _, _, _, _, e⟩ | ⟨_, e⟩
  · rw [e]; exact tj_mi_lt hs
  · rw [e]; exact hs
section
variable {post : Int32 → Prop} {L : Int32} {B W G A M : Nat → Int32} {cn ak rl vr : Nat → Nat}
theorem xx_hang_l {q o sh : Nat} (hq : q < 2) (ho : o < 16) (hs : sh < 32) (ha : tj_At rl vr W) (h1 : (∃ j, j < 4 ∧ o.testBit j = true ∧ tj_mi sh (tj_so (rl (4 * q + j)) (vr (4 * q + j))) = 0) → post 1) (h0 : ¬ (∃ j, j < 4 ∧ o.testBit j = true ∧ tj_mi sh (tj_so (rl (4 * q + j)) (vr (4 * q + j))) = 0) → post 0) :
    ∀ n j, j ≤ 4 → 4 - j < n → (∀ i, i < j → ¬ (o.testBit i = true ∧ tj_mi sh (tj_so (rl (4 * q + i)) (vr (4 * q + i))) = 0)) → wX_hangsOnOne_24 post (nI q) (nI o) (nI sh) L B (tj_A cn) (tj_A ak) (tj_A rl) (tj_A vr) W G A M n (nI j) := by
  intro n
  induction n with
  | zero => intro j _ h; omega
  | succ n ih =>
    intro j k1 k2 hn
    rcases Nat.lt_or_ge j 4 with z | z
    · have nx : ¬ (o.testBit j = true ∧ tj_mi sh (tj_so (rl (4 * q + j)) (vr (4 * q + j))) = 0) → wX_hangsOnOne_24 post (nI q) (nI o) (nI sh) L B (tj_A cn) (tj_A ak) (tj_A rl) (tj_A vr) W G A M n (nI (j + 1)) := by
        intro hne
        refine ih (j + 1) (by omega) (by omega) (fun i hi => ?_)
        by_cases e : i = j
        · subst e; exact hne
        · exact hn i (by omega)
      refine br_f (nI_ge (b := 4) z (by decide)) (xx_has (by omega) (by omega) (fun hb => br_f (by decide) ?_) (fun hb => br_t rfl (nm_r (nI_1 j) (nx (fun y => by rw [hb] at y; exact absurd y.1 (by decide))))))
      rw [tj_shl (by omega)]
      refine xx_vo hq (Nat.lt_trans (tj_2p j z) (by decide)) ha ?_
      rw [tj_vo_1 z, tj_miI _ hs _ (tj_so_lt _ _)]
      exact pk_eq (tj_mi sh (tj_so (rl (4 * q + j)) (vr (4 * q + j)))) 0 (fun e => h1 ⟨j, z, hb, e⟩) (fun e => nm_r (nI_1 j) (nx (fun y => e y.2))) rfl rfl (Nat.lt_trans (tj_mi_lt hs) (by decide)) (by decide)
    · have e : j = 4 := by omega
      subst e
      exact br_t (by decide) (h0 (fun ⟨j, hj, y⟩ => hn j hj y))
theorem xx_hang {q i s : Nat} (hq : q < 2) (hi : i < 4) (hs : s < 16) (ha : tj_At rl vr W) (h1 : tj_H rl vr q s i → post 1) (h0 : ¬ tj_H rl vr q s i → post 0) : wpX_hangsOnOne post (L, B, tj_A cn, tj_A ak, tj_A rl, tj_A vr, W, G, A, M) (nI q) (nI i) (nI (tj_mi s (2 ^ i))) := by
  have ml : tj_mi s (2 ^ i) < 16 := tj_mi_lt hs
  unfold wpX_hangsOnOne
  dsimp only
  rw [tj_shl (by omega)]
  refine xx_vo hq (Nat.lt_trans (tj_2p i hi) (by decide)) ha (xx_vo hq (by omega) ha ?_)
  rw [tj_vo_1 hi, nx_and]
  exact nm_e ⟨5, xx_hang_l hq ml (tj_and_lt (tj_so_lt _ _)) ha h1 h0 5 0 (by omega) (by omega) (fun j hj => by omega)⟩
theorem xx_wo_l {q s : Nat} (hq : q < 2) (hs : s < 16) (ha : tj_At rl vr W) (h : ∀ t, tj_SY (tj_HX (tj_H rl vr q)) s t → post (nI t)) :
    ∀ n i, i ≤ 4 → 4 - i < n → (∀ j, j < i → s.testBit j = true → ¬ tj_HX (tj_H rl vr q) s j) → wX_withoutOne_2 post (nI q) (nI s) L B (tj_A cn) (tj_A ak) (tj_A rl) (tj_A vr) W G A M n (nI i) := by
  intro n
  induction n with
  | zero => intro j _ h; omega
  | succ n ih =>
    intro i k1 k2 hn
    rcases Nat.lt_or_ge i 4 with z | z
    · have nx : (s.testBit i = true → ¬ tj_HX (tj_H rl vr q) s i) → wX_withoutOne_2 post (nI q) (nI s) L B (tj_A cn) (tj_A ak) (tj_A rl) (tj_A vr) W G A M n (nI (i + 1)) := by
        intro hne
        refine ih (i + 1) (by omega) (by omega) (fun j hj => ?_)
        by_cases e : j = i
        · subst e; exact hne
        · exact hn j (by omega)
      have e5 : nI s &&& (((1 : Int32) <<< (nI i &&& 31)) ^^^ (-1)) = nI (tj_mi s (2 ^ i)) := by rw [tj_shl (by omega), tj_miI s (by omega) _ (tj_2p i z)]
      refine br_f (nI_ge (b := 4) z (by decide)) (xx_has (by omega) (by omega) (fun hb => br_f (by decide) (nm_r e5 ?_)) (fun hb => br_t rfl (nm_r (nI_1 i) (nx (fun y => by rw [hb] at y; exact absurd y (by decide))))))
      have ml : tj_mi s (2 ^ i) < 16 := tj_mi_lt hs
      refine pk_eq (tj_mi s (2 ^ i)) 0 (fun e => h _ (Or.inl ⟨i, z, hb, Or.inl e, hn, rfl⟩)) (fun e => xx_hang hq z hs ha (fun hH => br_f (by decide) (h _ (Or.inl ⟨i, z, hb, Or.inr hH, hn, rfl⟩))) (fun hH => br_t rfl (nm_r (nI_1 i) (nx (fun _ y => y.elim e hH)))))
    · have e : i = 4 := by omega
      subst e
      exact br_t (by decide) (h s (Or.inr ⟨hn, rfl⟩))
theorem xx_wo {q s : Nat} (hq : q < 2) (hs : s < 16) (ha : tj_At rl vr W) (h : ∀ t, tj_SY (tj_HX (tj_H rl vr q)) s t → post (nI t)) : wpX_withoutOne post (L, B, tj_A cn, tj_A ak, tj_A rl, tj_A vr, W, G, A, M) (nI q) (nI s) :=
  ⟨5, xx_wo_l hq hs ha h 5 0 (by omega) (by omega) (fun j hj => by omega)⟩
theorem xx_tree_l {q : Nat} (hq : q < 2) (ha : tj_At rl vr W) : ∀ n k s, k ≤ 4 → 4 - k < n → s < 16 → (∀ e, tj_chn (tj_SY (tj_HX (tj_H rl vr q))) (4 - k) s e → (e = 0 → post 1) ∧ (e ≠ 0 → post 0)) → wX_treeLike_17 post (nI q) L B (tj_A cn) (tj_A ak) (tj_A rl) (tj_A vr) W G A M n (nI s) (nI k) := by
  intro n
  induction n with
  | zero => intro k s _ h; omega
  | succ n ih =>
    intro k s k1 k2 hs h
    rcases Nat.lt_or_ge k 4 with z | z
    · refine br_f (nI_ge (b := 4) z (by decide)) (xx_wo hq hs ha (fun t ht => nm_r (nI_1 k) (ih (k + 1) t (by omega) (by omega) (tj_SY_lt hs ht) (fun e he => h e ?_))))
      rw [show 4 - k = 4 - (k + 1) + 1 by omega]
      exact ⟨t, ht, he⟩
    · have e : k = 4 := by omega
      subst e
      obtain ⟨p1, p0⟩ := h s rfl
      exact br_t (by decide) (pk_eq s 0 p1 p0)
end
section
variable {post : Int32 → SX → Prop} {L : Int32} {B W G A M : Nat → Int32} {cn ak rl vr : Nat → Nat}
theorem xx_count_l (h : post (nI (tj_k (tj_m A) 0 3125)) (L, B, tj_A cn, tj_A ak, tj_A rl, tj_A vr, W, G, A, M)) : ∀ n a, a ≤ 3125 → 3125 - a < n → wX_count_29 post L B (tj_A cn) (tj_A ak) (tj_A rl) (tj_A vr) W G A M n (nI (tj_k (tj_m A) 0 a)) (nI a) := by
  intro n
  induction n with
  | zero => intro a _ h; omega
  | succ n ih =>
    intro a k1 k2
    rcases Nat.lt_or_ge a 3125 with z | z
    · have k := ih (a + 1) (by omega) (by omega)
      refine br_f (nI_ge (b := 3125) z (by decide)) ⟨vp_in_nI z (by decide), ?_⟩
      rw [nI_clamp (by omega)]
      refine br_c (fun e => nm_r (nI_1 a) ?_) (fun e => nm_r (nI_1 _) (nm_r (nI_1 a) ?_))
      · rw [tj_k0_f (by unfold tj_m; rw [decide_eq_true_eq]; exact fun y => y e)] at k
        exact k
      · rw [tj_k0_t (by unfold tj_m; rw [decide_eq_true_eq]; exact e)] at k
        exact k
    · have e : a = 3125 := by omega
      subst e
      exact br_t (by decide) h
theorem xx_answer_l {x : Int32} : ∀ n a b, a ≤ 3125 → 3125 - a < n → post (tj_fa A x (3125 - a) a b) (L, B, tj_A cn, tj_A ak, tj_A rl, tj_A vr, W, G, A, M) → wX_answer_34 post x L B (tj_A cn) (tj_A ak) (tj_A rl) (tj_A vr) W G A M n (nI b) (nI a) := by
  intro n
  induction n with
  | zero => intro a b _ h; omega
  | succ n ih =>
    intro a b k1 k2 h
    rcases Nat.lt_or_ge a 3125 with z | z
    · have e3 : 3125 - a = (3125 - (a + 1)) + 1 := by omega
      rw [e3, show tj_fa A x (3125 - (a + 1) + 1) a b = if A a = 0 then tj_fa A x (3125 - (a + 1)) (a + 1) b else if nI b = x then nI a else tj_fa A x (3125 - (a + 1)) (a + 1) (b + 1) from rfl] at h
      refine br_f (nI_ge (b := 3125) z (by decide)) ⟨vp_in_nI z (by decide), ?_⟩
      rw [nI_clamp (by omega)]
      refine br_c (fun e => nm_r (nI_1 a) (ih _ _ (by omega) (by omega) ?_)) (fun e => br_c (fun e2 => ?_) (fun e2 => nm_r (nI_1 b) (nm_r (nI_1 a) (ih _ _ (by omega) (by omega) ?_))))
      · rw [if_pos e] at h; exact h
      · rw [if_neg e, if_pos e2] at h; exact h
      · rw [if_neg e, if_neg e2] at h; exact h
    · have e : a = 3125 := by omega
      subst e
      exact br_t (by decide) h
theorem xx_often_l {x p : Nat} (hx : x < 5) (hp : p < 5) (h : post (nI (tj_k (fun a => tj_m A a && decide (a / 5 ^ p % 5 = x)) 0 3125)) (L, B, tj_A cn, tj_A ak, tj_A rl, tj_A vr, W, G, A, M)) : ∀ n a, a ≤ 3125 → 3125 - a < n → wX_often_70 post (nI x) (nI p) L B (tj_A cn) (tj_A ak) (tj_A rl) (tj_A vr) W G A M n (nI (tj_k (fun a => tj_m A a && decide (a / 5 ^ p % 5 = x)) 0 a)) (nI a) := by
  intro n
  induction n with
  | zero => intro a _ h; omega
  | succ n ih =>
    intro a k1 k2
    rcases Nat.lt_or_ge a 3125 with z | z
    · have k := ih (a + 1) (by omega) (by omega)
      have d5 : a / 5 ^ p % 5 < 5 := Nat.mod_lt _ (by decide)
      refine br_f (nI_ge (b := 3125) z (by decide)) ⟨vp_in_nI z (by decide), ?_⟩
      rw [nI_clamp (by omega)]
      refine br_c (fun e => nm_r (nI_1 a) ?_) (fun e => xx_dig (by omega) (by omega) (pk_eq (a / 5 ^ p % 5) x (fun e2 => nm_r (nI_1 _) (nm_r (nI_1 a) ?_)) (fun e2 => nm_r (nI_1 a) ?_)))
      · rw [tj_k0_f (by simp [tj_m, e])] at k
        exact k
      · rw [tj_k0_t (by simp [tj_m, e, e2])] at k
        exact k
      · rw [tj_k0_f (by simp [tj_m, e, e2])] at k
        exact k
    · have e : a = 3125 := by omega
      subst e
      exact br_t (by decide) h
theorem tj_dec (N c : Nat) : nI N - nI c + (-1) = nI N - nI (c + 1) := by
  rw [← nI_1]
  grind
theorem xx_idle56 {N : Nat} (h : post (nI N - nI (tj_k (tj_m M) 0 468)) (L, B, tj_A cn, tj_A ak, tj_A rl, tj_A vr, W, G, A, M)) : ∀ n a, a ≤ 468 → 468 - a < n → wX_idle_56 post L B (tj_A cn) (tj_A ak) (tj_A rl) (tj_A vr) W G A M n (nI N - nI (tj_k (tj_m M) 0 a)) (nI a) := by
  intro n
  induction n with
  | zero => intro a _ h; omega
  | succ n ih =>
    intro a k1 k2
    rcases Nat.lt_or_ge a 468 with z | z
    · have k := ih (a + 1) (by omega) (by omega)
      refine br_f (nI_ge (b := 468) z (by decide)) ⟨vp_in_nI z (by decide), ?_⟩
      rw [nI_clamp (by omega)]
      refine br_c (fun e => nm_r (nI_1 a) ?_) (fun e => nm_r (tj_dec _ _) (nm_r (nI_1 a) ?_))
      · rw [tj_k0_f (by unfold tj_m; rw [decide_eq_true_eq]; exact fun y => y e)] at k
        exact k
      · rw [tj_k0_t (by unfold tj_m; rw [decide_eq_true_eq]; exact e)] at k
        exact k
    · have e : a = 468 := by omega
      subst e
      exact br_t (by decide) h
theorem xx_idle30 {a b c : Nat} (e0 : B 0 = nI a) (e1 : B 156 = nI b) (e2 : B 312 = nI c) (h : post (nI (a + b + c) - nI (tj_k (tj_m M) 0 468)) (L, B, tj_A cn, tj_A ak, tj_A rl, tj_A vr, W, G, A, M)) : ∃ n, wX_idle_30 post L B (tj_A cn) (tj_A ak) (tj_A rl) (tj_A vr) W G A M n 0 0 := by
  refine ⟨4, br_f (by decide) ⟨by rw [vp_in_iff]; decide, nm_e (nm_e (br_f (by decide) ⟨by rw [vp_in_iff]; decide, nm_e (nm_e (br_f (by decide) ⟨by rw [vp_in_iff]; decide, nm_e (nm_e (br_t (by decide) ⟨469, ?_⟩))⟩))⟩))⟩⟩
  have k := xx_idle56 (post := post) (L := L) (B := B) (W := W) (G := G) (A := A) (M := M) (cn := cn) (ak := ak) (rl := rl) (vr := vr) (N := a + b + c) h 469 0 (by omega) (by omega)
  have e : (0 : Int32) + B ((0 : Int32) * 156).toNatClampNeg + B (((0 : Int32) + 1) * 156).toNatClampNeg + B (((0 : Int32) + 1 + 1) * 156).toNatClampNeg = nI (a + b + c) - nI (tj_k (tj_m M) 0 0) := by
    show (0 : Int32) + B 0 + B 156 + B 312 = nI (a + b + c) - nI 0
    rw [e0, e1, e2, nI_0, Int32.zero_add, nI_add, nI_add, Int32.sub_zero]
  rw [e]
  exact k
theorem xx_within_l {q o : Nat} (hq : q < 2) (ho : o < 2) (hcq : cn q ≤ 4) (hco : cn o ≤ 4) (h0 : 0 < cn o) (hk : ak o < 32) (ha : tj_At rl vr W) (h1 : (∃ d, d < 3125 ∧ tj_Into rl vr (ak o) (tj_g d) (4 * o) (cn o) (4 * q) (cn q) (2 ^ cn q - 1)) → ∀ G, post 1 (L, B, tj_A cn, tj_A ak, tj_A rl, tj_A vr, W, G, A, M))
    (hz : ¬ (∃ d, d < 3125 ∧ tj_Into rl vr (ak o) (tj_g d) (4 * o) (cn o) (4 * q) (cn q) (2 ^ cn q - 1)) → ∀ G, post 0 (L, B, tj_A cn, tj_A ak, tj_A rl, tj_A vr, W, G, A, M)) :
    ∀ n c G, c ≤ 3125 → 3125 - c < n → (∀ d, d < c → ¬ tj_Into rl vr (ak o) (tj_g d) (4 * o) (cn o) (4 * q) (cn q) (2 ^ cn q - 1)) → wX_within_49 post (nI q) (nI o) n (nI c) L B (tj_A cn) (tj_A ak) (tj_A rl) (tj_A vr) W G A M := by
  intro n
  induction n with
  | zero => intro c G _ h; omega
  | succ n ih =>
    intro c G k1 k2 hn
    rcases Nat.lt_or_ge c 3125 with z | z
    · refine br_f (nI_ge (b := 3125) z (by decide)) (xx_ren ho hq hco hcq hk ha (by omega) (fun G' R hR hl => ?_))
      rcases hR with ⟨e, no⟩ | ⟨hf, hi⟩
      · subst e
        refine br_t rfl (nm_r (nI_1 c) (ih (c + 1) G' (by omega) (by omega) (fun d hd => ?_)))
        by_cases e : d = c
        · subst e; exact no _
        · exact hn d (by omega)
      · exact br_f (nI_ne0 (Nat.pos_of_ne_zero (tj_Im_ne hi h0)) (by omega)) (h1 ⟨c, z, tj_Into_all (tj_Im_into hf hi)⟩ G')
    · have e : c = 3125 := by omega
      subst e
      exact br_t (by decide) (hz (fun ⟨d, hd, y⟩ => hn d hd y) G)
theorem xx_small_l {q : Nat} (hq : q < 2) (hc : cn q ≤ 4) (h0 : 0 < cn q) (hk : ak q < 32) (ha : tj_At rl vr W) (h : ∀ m G, tj_Le (tj_SX rl vr (ak q) (4 * q) (cn q) 3125) (cn q) m → post (nI m) (L, B, tj_A cn, tj_A ak, tj_A rl, tj_A vr, W, G, A, M)) :
    ∀ n c m G, c ≤ 3125 → 3125 - c < n → tj_Le (tj_SX rl vr (ak q) (4 * q) (cn q) c) (cn q) m → wX_smallest_29 post (nI q) n (nI m) (nI c) L B (tj_A cn) (tj_A ak) (tj_A rl) (tj_A vr) W G A M := by
  intro n
  induction n with
  | zero => intro c m G _ h; omega
  | succ n ih =>
    intro c m G k1 k2 hm
    have m4 := hm.1
    rcases Nat.lt_or_ge c 3125 with z | z
    · refine br_f (nI_ge (b := 3125) z (by decide)) (xx_ren hq hq hc hc hk ha (by omega) (fun G' R hR hl => xx_size hl ?_))
      have s4 := tj_s_le R hl
      refine pk_eq R 0 (fun e => nm_r (nI_1 c) (ih (c + 1) m G' (by omega) (by omega) (tj_SX_up hm hR (fun y => absurd e y) h0))) (fun e => pk_le m (tj_s R) (fun le => nm_r (nI_1 c) (ih (c + 1) m G' (by omega) (by omega) (tj_SX_up hm hR (fun _ => le) h0))) (fun gt => nm_r (nI_1 c) (ih (c + 1) _ G' (by omega) (by omega) ?_)))
      rcases hR with ⟨e', _⟩ | ⟨hf, hi⟩
      · exact absurd e' e
      · exact tj_SX_dn hm hf hi gt
    · have e : c = 3125 := by omega
      subst e
      exact br_t (by decide) (h m G hm)
end
