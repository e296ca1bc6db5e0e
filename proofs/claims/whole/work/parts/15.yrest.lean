/-! Y: renamings, smallest, tree-like -/
section
variable {post : Int32 → Prop} {th : Nat → Bool} {D E : Nat → Int32} {cn ak rl vr : Nat → Nat}
def tj_Am (rl vr : Nat → Nat) (t n A r x : Nat) : Prop := ∃ j, j < n ∧ A.testBit j = true ∧ rl (4 * t + j) = r ∧ vr (4 * t + j) = x
theorem yy_among_l {t A p x : Nat} (ht : t < 2) (hn : cn t ≤ 4) (hA : A < 2 ^ 31) (hp : p < 8) (hx : x < 2 ^ 31) (ha : tj_Ay rl vr) (h1 : tj_Am rl vr t (cn t) A (rl p) x → post 1) (h0 : ¬ tj_Am rl vr t (cn t) A (rl p) x → post 0) :
    ∀ n i, i ≤ cn t → cn t - i < n → (∀ j, j < i → ¬ (A.testBit j = true ∧ rl (4 * t + j) = rl p ∧ vr (4 * t + j) = x)) → wY_isAmong_12 post (nI t) (nI A) (nI p) (nI x) (tj_T th) (tj_A cn) (tj_A rl) (tj_A vr) (tj_A ak) D E n (nI i) := by
  intro n
  induction n with
  | zero => intro i _ h; omega
  | succ n ih =>
    intro i k1 k2 hj
    refine ⟨vp_in_nI ht (by decide), ?_⟩
    rw [nI_clamp (n := t) (by omega)]
    refine pk_le (cn t) i (fun le => ?_) (fun gt => ?_)
    · have e : i = cn t := by omega
      subst e
      exact h0 (fun ⟨j, hjt, y⟩ => hj j hjt y)
    · obtain ⟨a1, a2⟩ := tj_Ay_b ha (show 4 * t + i < 8 by omega)
      obtain ⟨b1, b2⟩ := tj_Ay_b ha hp
      have nx : ¬ (A.testBit i = true ∧ rl (4 * t + i) = rl p ∧ vr (4 * t + i) = x) → wY_isAmong_12 post (nI t) (nI A) (nI p) (nI x) (tj_T th) (tj_A cn) (tj_A rl) (tj_A vr) (tj_A ak) D E n (nI (i + 1)) := by
        intro hne
        refine ih (i + 1) (by omega) (by omega) (fun j hj' => ?_)
        by_cases e : j = i
        · subst e; exact hne
        · exact hj j (by omega)
      refine yy_in hA (by omega) (fun hb => br_f (by decide) ?_) (fun hb => br_t rfl (nm_r (nI_1 i) (nx (fun y => by rw [hb] at y; exact absurd y.1 (by decide)))))
      rw [tj_f4, nI_clamp (n := 4 * t + i) (by omega), nI_clamp (n := p) (by omega)]
      refine ⟨vp_in_nI (by omega) (by decide), vp_in_nI hp (by decide), pk_eq (rl (4 * t + i)) (rl p) (fun e1 => ⟨vp_in_nI (by omega) (by decide), pk_eq (vr (4 * t + i)) x (fun e2 => h1 ⟨i, gt, hb, e1, e2⟩) (fun e2 => nm_r (nI_1 i) (nx (fun y => e2 y.2.2)))⟩) (fun e1 => nm_r (nI_1 i) (nx (fun y => e1 y.2.1)))⟩
theorem yy_among {t A p code : Nat} (ht : t < 2) (hn : cn t ≤ 4) (hA : A < 2 ^ 31) (hp : p < 8) (hc : code < 2 ^ 31) (ha : tj_Ay rl vr) (h1 : tj_Am rl vr t (cn t) A (rl p) (tj_row (rl p) (vr p) (tj_g code)) → post 1) (h0 : ¬ tj_Am rl vr t (cn t) A (rl p) (tj_row (rl p) (vr p) (tj_g code)) → post 0) : wpY_isAmong post (tj_T th, tj_A cn, tj_A rl, tj_A vr, tj_A ak, D, E) (nI t) (nI A) (nI p) (nI code) := by
  obtain ⟨b1, b2⟩ := tj_Ay_b ha hp
  have rlt := tj_LY_lt b1 (tj_row_lt (r := rl p) (vs := vr p) (fun v _ => tj_g_lt code v))
  unfold wpY_isAmong
  exact yy_rep hp b1 (by omega) hc ⟨cn t + 1, yy_among_l ht hn hA hp (by omega) ha h1 h0 _ 0 (by omega) (by omega) (fun j hj => by omega)⟩
theorem yy_cm63b {J : Int32 → Prop} {f c n : Nat} {x2 x3 x6 : Int32} (hf : f < 2) (h : J (nI (c + 1))) : wY_canMap_63 post J (nI f) x2 x3 (nI c) (tj_T th) (tj_A cn) (tj_A rl) (tj_A vr) (tj_A ak) D E (n + 1) 0 x6 :=
  ⟨vp_in_nI hf (by decide), br_c (fun _ => br_t rfl (nm_r (nI_1 c) h)) (fun _ => br_t rfl (br_t rfl (nm_r (nI_1 c) h)))⟩
theorem yy_cm63 {J : Int32 → Prop} {f t A c : Nat} (hf : f < 2) (ht : t < 2) (hcf : cn f ≤ 4) (hct : cn t ≤ 4) (hA : A < 2 ^ 31) (hc : c < 2 ^ 31) (ha : tj_Ay rl vr) (hx : tj_fix (ak f) (tj_g c)) (h1 : tj_Into rl vr (ak f) (tj_g c) (4 * f) (cn f) (4 * t) (cn t) A → post 1) (h0 : ¬ tj_Into rl vr (ak f) (tj_g c) (4 * f) (cn f) (4 * t) (cn t) A → J (nI (c + 1))) :
    ∀ n i, i ≤ cn f → cn f - i < n → (∀ j, j < i → tj_Am rl vr t (cn t) A (rl (4 * f + j)) (tj_row (rl (4 * f + j)) (vr (4 * f + j)) (tj_g c))) → wY_canMap_63 post J (nI f) (nI t) (nI A) (nI c) (tj_T th) (tj_A cn) (tj_A rl) (tj_A vr) (tj_A ak) D E n 1 (nI i) := by
  intro n
  induction n with
  | zero => intro i _ h; omega
  | succ n ih =>
    intro i k1 k2 hj
    refine ⟨vp_in_nI hf (by decide), ?_⟩
    rw [nI_clamp (n := f) (by omega)]
    refine pk_le (cn f) i (fun le => ?_) (fun gt => br_f (by decide) ?_)
    · have e : i = cn f := by omega
      subst e
      exact br_f (by decide) (h1 ⟨hx, hj⟩)
    · rw [tj_f4]
      refine yy_among ht hct hA (by omega) hc ha (fun y => nm_r (nI_1 i) (ih (i + 1) (by omega) (by omega) (fun j hj' => ?_))) (fun y => nm_r (nI_1 i) ?_)
      · by_cases e : j = i
        · subst e; exact y
        · exact hj j (by omega)
      · obtain ⟨m, rfl⟩ : ∃ m, n = m + 1 := ⟨n - 1, by omega⟩
        exact yy_cm63b hf (h0 (fun z => y (z.2 i gt)))
theorem yy_cm17b {J : Int32 → Prop} {f c : Nat} {x2 x3 : Int32} (hf : f < 2) (hk : ak f < 32) (hc : c < 2 ^ 31) (h : J (nI (c + 1))) : ∀ n v, v ≤ 5 → 5 - v < n → wY_canMap_17 post J (nI f) x2 x3 (nI c) (tj_T th) (tj_A cn) (tj_A rl) (tj_A vr) (tj_A ak) D E n 0 (nI v) := by
  intro n
  induction n with
  | zero => intro i _ h; omega
  | succ n ih =>
    intro v k1 k2
    rcases Nat.lt_or_ge v 5 with z | z
    · have k := ih (v + 1) (by omega) (by omega)
      refine br_f (nI_ge (b := 5) z (by decide)) ⟨vp_in_nI hf (by decide), ?_⟩
      rw [nI_clamp (n := f) (by omega), tj_Ap]
      exact yy_in (by omega) (by omega) (fun hb => br_f (by decide) (yy_given hc (by omega) (br_c (fun _ => nm_r (nI_1 v) k) (fun _ => nm_r (nI_1 v) k)))) (fun hb => br_t rfl (nm_r (nI_1 v) k))
    · have e : v = 5 := by omega
      subst e
      exact br_t (by decide) ⟨1, yy_cm63b hf h⟩
theorem yy_cm17 {J : Int32 → Prop} {f t A c : Nat} (hf : f < 2) (ht : t < 2) (hcf : cn f ≤ 4) (hct : cn t ≤ 4) (hk : ak f < 32) (hA : A < 2 ^ 31) (hc : c < 2 ^ 31) (ha : tj_Ay rl vr) (h1 : tj_Into rl vr (ak f) (tj_g c) (4 * f) (cn f) (4 * t) (cn t) A → post 1) (h0 : ¬ tj_Into rl vr (ak f) (tj_g c) (4 * f) (cn f) (4 * t) (cn t) A → J (nI (c + 1))) :
    ∀ n v, v ≤ 5 → 5 - v < n → (∀ w, w < v → (ak f).testBit w = true → tj_g c w = w) → wY_canMap_17 post J (nI f) (nI t) (nI A) (nI c) (tj_T th) (tj_A cn) (tj_A rl) (tj_A vr) (tj_A ak) D E n 1 (nI v) := by
  intro n
  induction n with
  | zero => intro i _ h; omega
  | succ n ih =>
    intro v k1 k2 hv
    rcases Nat.lt_or_ge v 5 with z | z
    · have nx : ((ak f).testBit v = true → tj_g c v = v) → wY_canMap_17 post J (nI f) (nI t) (nI A) (nI c) (tj_T th) (tj_A cn) (tj_A rl) (tj_A vr) (tj_A ak) D E n 1 (nI (v + 1)) := by
        intro q
        refine ih (v + 1) (by omega) (by omega) (fun w hw => ?_)
        by_cases e : w = v
        · subst e; exact q
        · exact hv w (by omega)
      have g5 := tj_g_lt c v
      refine br_f (nI_ge (b := 5) z (by decide)) ⟨vp_in_nI hf (by decide), ?_⟩
      rw [nI_clamp (n := f) (by omega), tj_Ap]
      exact yy_in (by omega) (by omega) (fun hb => br_f (by decide) (yy_given hc (by omega) (pk_eq (tj_g c v) v (fun e => nm_r (nI_1 v) (nx (fun _ => e))) (fun e => nm_r (nI_1 v) (yy_cm17b hf hk hc (h0 (fun y => e (y.1 v z hb))) n (v + 1) (by omega) (by omega)))))) (fun hb => br_t rfl (nm_r (nI_1 v) (nx (fun y => by rw [hb] at y; exact absurd y (by decide)))))
    · have e : v = 5 := by omega
      subst e
      exact br_t (by decide) ⟨cn f + 1, yy_cm63 hf ht hcf hct hA hc ha hv h1 h0 _ 0 (by omega) (by omega) (fun j hj => by omega)⟩
theorem yy_cm3 {f t A : Nat} (hf : f < 2) (ht : t < 2) (hcf : cn f ≤ 4) (hct : cn t ≤ 4) (hk : ak f < 32) (hA : A < 2 ^ 31) (ha : tj_Ay rl vr) (h1 : (∃ d, d < 3125 ∧ tj_Into rl vr (ak f) (tj_g d) (4 * f) (cn f) (4 * t) (cn t) A) → post 1) (h0 : ¬ (∃ d, d < 3125 ∧ tj_Into rl vr (ak f) (tj_g d) (4 * f) (cn f) (4 * t) (cn t) A) → post 0) :
    ∀ n c, c ≤ 3125 → 3125 - c < n → (∀ d, d < c → ¬ tj_Into rl vr (ak f) (tj_g d) (4 * f) (cn f) (4 * t) (cn t) A) → wY_canMap_3 post (nI f) (nI t) (nI A) (tj_T th) (tj_A cn) (tj_A rl) (tj_A vr) (tj_A ak) D E n (nI c) := by
  intro n
  induction n with
  | zero => intro i _ h; omega
  | succ n ih =>
    intro c k1 k2 hn
    rcases Nat.lt_or_ge c 3125 with z | z
    · refine br_f (nI_ge (b := 3125) z (by decide)) ⟨6, yy_cm17 hf ht hcf hct hk hA (by omega) ha (fun y => h1 ⟨c, z, y⟩) (fun y => ih (c + 1) (by omega) (by omega) (fun d hd => ?_)) 6 0 (by omega) (by omega) (fun w hw => by omega)⟩
      by_cases e : d = c
      · subst e; exact y
      · exact hn d (by omega)
    · have e : c = 3125 := by omega
      subst e
      exact br_t (by decide) (h0 (fun ⟨d, hd, y⟩ => hn d hd y))
theorem yy_cm {f t A : Nat} (hf : f < 2) (ht : t < 2) (hcf : cn f ≤ 4) (hct : cn t ≤ 4) (hk : ak f < 32) (hA : A < 2 ^ 31) (ha : tj_Ay rl vr) (h1 : (∃ d, d < 3125 ∧ tj_Into rl vr (ak f) (tj_g d) (4 * f) (cn f) (4 * t) (cn t) A) → post 1) (h0 : ¬ (∃ d, d < 3125 ∧ tj_Into rl vr (ak f) (tj_g d) (4 * f) (cn f) (4 * t) (cn t) A) → post 0) : wpY_canMap post (tj_T th, tj_A cn, tj_A rl, tj_A vr, tj_A ak, D, E) (nI f) (nI t) (nI A) :=
  ⟨3126, yy_cm3 hf ht hcf hct hk hA ha h1 h0 3126 0 (by omega) (by omega) (fun d hd => by omega)⟩
theorem yy_size_l {s : Nat} (hs : s < 16) (h : post (nI (tj_s s))) : ∀ n i, i ≤ 5 → 5 - i < n → wY_sizeOf_4 post (nI s) (tj_T th) (tj_A cn) (tj_A rl) (tj_A vr) (tj_A ak) D E n (nI (tj_zs s i)) (nI i) := by
  intro n
  induction n with
  | zero => intro i _ h; omega
  | succ n ih =>
    intro i k1 k2
    rcases Nat.lt_or_ge i 5 with z | z
    · have k := ih (i + 1) (by omega) (by omega)
      refine br_f (nI_ge (b := 5) z (by decide)) (yy_in (by omega) (by omega) (fun hb => br_f (by decide) (nm_r (nI_1 _) (nm_r (nI_1 i) ?_))) (fun hb => br_t rfl (nm_r (nI_1 i) ?_)))
      · rw [tj_zs_t hb] at k
        exact k
      · rw [tj_zs_f hb] at k
        exact k
    · have e : i = 5 := by omega
      subst e
      rw [tj_zs_5 hs]
      exact br_t (by decide) h
theorem yy_size {s : Nat} (hs : s < 16) (h : post (nI (tj_s s))) : wpY_sizeOf post (tj_T th, tj_A cn, tj_A rl, tj_A vr, tj_A ak, D, E) (nI s) :=
  ⟨6, yy_size_l hs h 6 0 (by omega) (by omega)⟩
theorem yy_small_l {q : Nat} (hq : q < 2) (hc : cn q ≤ 4) (hk : ak q < 32) (ha : tj_Ay rl vr) (h : ∀ m, tj_Le (tj_SZ rl vr (ak q) (4 * q) (cn q) (2 ^ cn q)) (cn q) m → post (nI m)) :
    ∀ n A m, A ≤ 2 ^ cn q → 2 ^ cn q - A < n → tj_Le (tj_SZ rl vr (ak q) (4 * q) (cn q) A) (cn q) m → wY_smallest_30 post (nI q) (tj_T th) (tj_A cn) (tj_A rl) (tj_A vr) (tj_A ak) D E n (nI m) (nI A) := by
  obtain ⟨p1, p2, p3⟩ := tj_p1 hc
  intro n
  induction n with
  | zero => intro A m _ h; omega
  | succ n ih =>
    intro A m k1 k2 hm
    have m4 := hm.1
    unfold wY_smallest_30
    refine yy_all hq hc (pk_lt (2 ^ cn q - 1) A (fun lt => ?_) (fun ge => ?_))
    · have e : A = 2 ^ cn q := by omega
      rw [e] at hm
      exact h m hm
    · have A16 : A < 16 := by omega
      have s4 := tj_s_le A A16
      have nx : (tj_ok rl vr (ak q) (4 * q) (cn q) A → m ≤ tj_s A) → wY_smallest_30 post (nI q) (tj_T th) (tj_A cn) (tj_A rl) (tj_A vr) (tj_A ak) D E n (nI m) (nI (A + 1)) := fun z => ih (A + 1) m (by omega) (by omega) (tj_SZ_up hm z)
      have vl := tj_vo_lt (f := (fun i => tj_so (rl (4 * q + i)) (vr (4 * q + i)))) (s := A) (fun i => tj_so_lt _ _) (cn q)
      refine yy_size A16 (pk_le m (tj_s A) (fun le => nm_r (nI_1 A) (nx (fun _ => le))) (fun gt => yy_isWhole hq hc hk (by omega) ha (fun w1 w2 => br_f (by decide) (yy_cm hq hq hc hc hk (by omega) ha (fun y => br_f (by decide) (yy_size A16 (nm_r (nI_1 A) (ih (A + 1) _ (by omega) (by omega) (tj_SZ_dn hm ⟨w1, (tj_mi0 _ hk _ vl).mp w2, y⟩ gt))))) (fun y => br_t rfl (nm_r (nI_1 A) (nx (fun o => absurd o.2.2 y)))))) (fun w => br_t rfl (nm_r (nI_1 A) (nx (fun o => absurd ⟨o.1, (tj_mi0 _ hk _ vl).mpr o.2.1⟩ w))))))
def tj_hg (rl vr : Nat → Nat) (q n s i j : Nat) : Prop := tj_mi (tj_so (rl (4 * q + i)) (vr (4 * q + i))) (tj_so (rl (4 * q + j)) (vr (4 * q + j))) &&& tj_vo (fun i => tj_so (rl (4 * q + i)) (vr (4 * q + i))) (tj_mi s (2 ^ i)) n = 0
theorem yy_hang {q s i j : Nat} (hq : q < 2) (hc : cn q ≤ 4) (hs : s < 16) (hi : i < 4) (hj : j < 4) (ha : tj_Ay rl vr) (h1 : tj_hg rl vr q (cn q) s i j → post 1) (h0 : ¬ tj_hg rl vr q (cn q) s i j → post 0) : wpY_hangsOn post (tj_T th, tj_A cn, tj_A rl, tj_A vr, tj_A ak, D, E) (nI q) (nI s) (nI i) (nI j) := by
  obtain ⟨a1, a2⟩ := tj_Ay_b ha (show 4 * q + i < 8 by omega)
  obtain ⟨b1, b2⟩ := tj_Ay_b ha (show 4 * q + j < 8 by omega)
  have ml : tj_mi s (2 ^ i) < 16 := tj_mi_lt hs
  unfold wpY_hangsOn
  dsimp only
  rw [tj_f4, tj_f4]
  refine yy_set (by omega) a1 (by omega) (yy_set (by omega) b1 (by omega) (nm_r (tj_miI _ (tj_so_lt _ _) _ (tj_so_lt _ _)) ?_))
  rw [tj_shl (by omega), tj_miI s (by omega) _ (tj_2p i hi)]
  refine yy_vo hq hc (by omega) ha ?_
  rw [nx_and]
  exact pk_eq _ 0 h1 h0 rfl rfl (Nat.lt_trans (tj_and_lt (tj_mi_lt (tj_so_lt _ _))) (by decide)) (by decide)
def tj_Q (rl vr : Nat → Nat) (q n s ij : Nat) : Prop := ij / 4 ≠ ij % 4 ∧ s.testBit (ij / 4) = true ∧ s.testBit (ij % 4) = true ∧ tj_hg rl vr q n s (ij / 4) (ij % 4)
theorem yy_leaf_l {q s : Nat} (hq : q < 2) (hc : cn q ≤ 4) (hs : s < 16) (ha : tj_Ay rl vr) (h1 : ∀ ij, ij < 16 → tj_Q rl vr q (cn q) s ij → (∀ x, x < ij → ¬ tj_Q rl vr q (cn q) s x) → post (nI (ij / 4))) (h0 : (∀ ij, ij < 16 → ¬ tj_Q rl vr q (cn q) s ij) → post (-1)) :
    ∀ n x, x ≤ 16 → 16 - x < n → (∀ y, y < x → ¬ tj_Q rl vr q (cn q) s y) → wY_leaf_2 post (nI q) (nI s) (tj_T th) (tj_A cn) (tj_A rl) (tj_A vr) (tj_A ak) D E n (nI x) := by
  intro n
  induction n with
  | zero => intro i _ h; omega
  | succ n ih =>
    intro x k1 k2 hn
    rcases Nat.lt_or_ge x 16 with z | z
    · have nx : ¬ tj_Q rl vr q (cn q) s x → wY_leaf_2 post (nI q) (nI s) (tj_T th) (tj_A cn) (tj_A rl) (tj_A vr) (tj_A ak) D E n (nI (x + 1)) := by
        intro hne
        refine ih (x + 1) (by omega) (by omega) (fun j hj => ?_)
        by_cases e : j = x
        · subst e; exact hne
        · exact hn j (by omega)
      have e4 : nI x - nI x / 4 * 4 = nI (x % 4) := pk_rem (d := 4) (by omega) (by decide) (by decide)
      refine br_f (nI_ge (b := 16) z (by decide)) ⟨by decide, nm_r (tj_dv_4 (by omega)) ⟨by decide, nm_r e4 (pk_eq (x / 4) (x % 4) (fun e => nm_r (nI_1 x) (nx (fun y => y.1 e))) (fun e => ?_))⟩⟩
      refine yy_in (by omega) (by omega) (fun b1 => br_f (by decide) (yy_in (by omega) (by omega) (fun b2 => br_f (by decide) (yy_hang hq hc hs (by omega) (by omega) ha (fun g => br_f (by decide) (h1 x z ⟨e, b1, b2, g⟩ hn)) (fun g => br_t rfl (nm_r (nI_1 x) (nx (fun y => g y.2.2.2)))))) (fun b2 => br_t rfl (nm_r (nI_1 x) (nx (fun y => by have w := y.2.2.1; rw [b2] at w; exact absurd w (by decide))))))) (fun b1 => br_t rfl (nm_r (nI_1 x) (nx (fun y => by have w := y.2.1; rw [b1] at w; exact absurd w (by decide)))))
    · have e : x = 16 := by omega
      subst e
      exact br_t (by decide) (h0 hn)
theorem yy_leaf {q s : Nat} (hq : q < 2) (hc : cn q ≤ 4) (hs : s < 16) (ha : tj_Ay rl vr) (h1 : ∀ ij, ij < 16 → tj_Q rl vr q (cn q) s ij → (∀ x, x < ij → ¬ tj_Q rl vr q (cn q) s x) → post (nI (ij / 4))) (h0 : (∀ ij, ij < 16 → ¬ tj_Q rl vr q (cn q) s ij) → post (-1)) : wpY_leaf post (tj_T th, tj_A cn, tj_A rl, tj_A vr, tj_A ak, D, E) (nI q) (nI s) :=
  ⟨17, yy_leaf_l hq hc hs ha h1 h0 17 0 (by omega) (by omega) (fun y hy => by omega)⟩
/-- Y's pairs are X's hanging atoms -/
theorem tj_Q_H {q n s : Nat} (hn : n ≤ 4) (hs : s < 2 ^ n) {i j : Nat} (hi : i < 4) (hj : j < 4) (hb : s.testBit i = true) : tj_Q rl vr q n s (4 * i + j) ↔ ((tj_mi s (2 ^ i)).testBit j = true ∧ tj_mi (tj_so (rl (4 * q + i)) (vr (4 * q + i)) &&& tj_vo (fun i => tj_so (rl (4 * q + i)) (vr (4 * q + i))) (tj_mi s (2 ^ i)) 4) (tj_so (rl (4 * q + j)) (vr (4 * q + j))) = 0) := by
  have s16 : s < 16 := Nat.lt_of_lt_of_le hs (tj_p1 hn).2.1
  have e1 : (4 * i + j) / 4 = i := by omega
  have e2 : (4 * i + j) % 4 = j := by omega
  unfold tj_Q tj_hg
  rw [e1, e2, tj_mi_b s s16 i hi j hj, tj_mi_sw, tj_vo_4 (tj_mi_lt hs) hn]
  exact ⟨fun ⟨a, _, c, d⟩ => ⟨⟨c, fun e => a e.symm⟩, d⟩, fun ⟨⟨c, a⟩, d⟩ => ⟨fun e => a e.symm, hb, c, d⟩⟩
theorem tj_H_Q {q n s : Nat} (hn : n ≤ 4) (hs : s < 2 ^ n) {i : Nat} (hi : i < 4) (hb : s.testBit i = true) : tj_H rl vr q s i ↔ ∃ j, j < 4 ∧ tj_Q rl vr q n s (4 * i + j) :=
  ⟨fun ⟨j, hj, y⟩ => ⟨j, hj, (tj_Q_H hn hs hi hj hb).mpr y⟩, fun ⟨j, hj, y⟩ => ⟨j, hj, (tj_Q_H hn hs hi hj hb).mp y⟩⟩
theorem yy_tree_l {q : Nat} (hq : q < 2) (hc : cn q ≤ 4) (ha : tj_Ay rl vr) : ∀ n k s, k ≤ 4 → 4 - k < n → s < 2 ^ cn q → (∀ e, tj_chn (tj_SY (tj_H rl vr q)) (4 - k) s e → (tj_s e ≤ 1 → post 1) ∧ (¬ tj_s e ≤ 1 → post 0)) → wY_treeLike_18 post (nI q) (tj_T th) (tj_A cn) (tj_A rl) (tj_A vr) (tj_A ak) D E n (nI s) (nI k) := by
  intro n
  induction n with
  | zero => intro k s _ h; omega
  | succ n ih =>
    intro k s k1 k2 hs h
    have s16 : s < 16 := Nat.lt_of_lt_of_le hs (tj_p1 hc).2.1
    rcases Nat.lt_or_ge k 4 with z | z
    · have nx : ∀ t, t < 2 ^ cn q → tj_SY (tj_H rl vr q) s t → wY_treeLike_18 post (nI q) (tj_T th) (tj_A cn) (tj_A rl) (tj_A vr) (tj_A ak) D E n (nI t) (nI (k + 1)) := by
        intro t ht hst
        refine ih (k + 1) t (by omega) (by omega) ht (fun e he => h e ?_)
        rw [show 4 - k = 4 - (k + 1) + 1 by omega]
        exact ⟨t, hst, he⟩
      refine br_f (nI_ge (b := 4) z (by decide)) (yy_leaf hq hc s16 ha (fun ij hij hQ hl => br_f (nI_pos (by omega)) (nm_r (e' := nI (tj_mi s (2 ^ (ij / 4)))) ?_ (nm_r (nI_1 k) (nx _ (tj_mi_lt hs) ?_)))) (fun no => br_t (by decide) (nm_r (nI_1 k) (nx s hs ?_))))
      · rw [tj_shl (by omega), tj_miI s (by omega) _ (tj_2p _ (by omega))]
      · have e : 4 * (ij / 4) + ij % 4 = ij := by omega
        refine Or.inl ⟨ij / 4, by omega, hQ.2.1, (tj_H_Q hc hs (by omega) hQ.2.1).mpr ⟨ij % 4, by omega, by rw [e]; exact hQ⟩, fun j hj bj hH => ?_, rfl⟩
        obtain ⟨y, hy, hyQ⟩ := (tj_H_Q hc hs (by omega) bj).mp hH
        exact hl _ (by omega) hyQ
      · refine Or.inr ⟨fun i hi bi hH => ?_, rfl⟩
        obtain ⟨y, hy, hyQ⟩ := (tj_H_Q hc hs hi bi).mp hH
        exact no _ (by omega) hyQ
    · have e : k = 4 := by omega
      subst e
      obtain ⟨p1, p0⟩ := h s rfl
      have s4 := tj_s_le s s16
      exact br_t (by decide) (yy_size s16 (pk_lt 1 (tj_s s) (fun lt => p0 (by omega)) (fun ge => p1 ge)))
end
