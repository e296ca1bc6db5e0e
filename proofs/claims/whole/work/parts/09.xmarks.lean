/-! X: marks and choices -/
def tj_wh (cn ak rl vr : Nat → Nat) (q : Nat) : Prop := cn q ≠ 0 ∧ tj_mi (ak q) (tj_vo (fun i => tj_so (rl (4 * q + i)) (vr (4 * q + i))) (2 ^ cn q - 1) (cn q)) = 0
def tj_Gv (G : Nat → Int32) (code : Nat) : Prop := ∀ v, v < 5 → G v = nI (tj_g code v)
theorem tj_p1 {n : Nat} (h : n ≤ 4) : 2 ^ n - 1 < 2 ^ n ∧ 2 ^ n ≤ 16 ∧ (2 ^ n - 1 = 0 ↔ n = 0) := by
  have : n = 0 ∨ n = 1 ∨ n = 2 ∨ n = 3 ∨ n = 4 := by omega
  rcases this with rfl | rfl | rfl | rfl | rfl <;> decide
theorem tj_so_lt (r vs : Nat) : tj_so r vs < 32 := tj_sp_lt _
section
variable {post : Int32 → Prop} {L : Int32} {B W G A M : Nat → Int32} {cn ak rl vr : Nat → Nat}
theorem xx_isWhole {q : Nat} (hq : q < 2) (hc : cn q ≤ 4) (hk : ak q < 32) (ha : tj_At rl vr W) (h1 : tj_wh cn ak rl vr q → post 1) (h0 : ¬ tj_wh cn ak rl vr q → post 0) : wpX_isWhole post (L, B, tj_A cn, tj_A ak, tj_A rl, tj_A vr, W, G, A, M) (nI q) := by
  obtain ⟨p1, p2, p3⟩ := tj_p1 hc
  unfold wpX_isWhole
  refine xx_all hq hc ?_
  by_cases z : cn q = 0
  · exact br_t (by rw [p3.mpr z]; rfl) (h0 (fun w => w.1 z))
  · refine br_f (fun e => z (p3.mp ((tj_eq_0 (by omega)).mp e))) ⟨vp_in_nI hq (by decide), xx_vo hq (by omega) ha ?_⟩
    show ((tj_A ak (nI q).toNatClampNeg &&& (nI _ ^^^ (-1))) = 0 → post 1) ∧ (¬ (tj_A ak (nI q).toNatClampNeg &&& (nI _ ^^^ (-1))) = 0 → post 0)
    have l := tj_vo_lt (f := (fun i => tj_so (rl (4 * q + i)) (vr (4 * q + i)))) (s := 2 ^ cn q - 1) (fun i => tj_so_lt _ _) 4
    rw [nI_clamp (by omega), tj_Ap, tj_miI _ hk _ l, tj_eq_0 (Nat.lt_trans (tj_mi_lt hk) (by decide)), tj_vo_4 p1 hc]
    exact br_c (fun w => h1 ⟨z, w⟩) (fun w => h0 (fun y => w y.2))
theorem xx_after_l {q v : Nat} (hq : q < 2) (hk : ak q < 32) (hv : v < 5) : ∀ n j, v + 1 + j ≤ 5 → 4 - v - j < n → post (nI (tj_k (fun w => (ak q).testBit w) (v + 1) (4 - v))) →
    wX_askedAfter_7 post (nI q) L B (tj_A cn) (tj_A ak) (tj_A rl) (tj_A vr) W G A M n (nI (tj_k (fun w => (ak q).testBit w) (v + 1) j)) (nI (v + 1 + j)) := by
  intro n
  induction n with
  | zero => intro j _ h; omega
  | succ n ih =>
    intro j h1 h2 h
    rcases Nat.lt_or_ge (v + 1 + j) 5 with z | z
    · have k := ih (j + 1) (by omega) (by omega) h
      refine br_f (nI_ge (b := 5) z (by decide)) ⟨vp_in_nI hq (by decide), ?_⟩
      show wpX_has _ (tj_A ak (nI q).toNatClampNeg) _
      rw [nI_clamp (by omega), tj_Ap]
      refine xx_has (by omega) (by omega) (fun ht => br_f (by decide) (nm_r (nI_1 _) (nm_r (nI_1 _) ?_))) (fun hf => br_t rfl (nm_r (nI_1 _) ?_))
      · have e : tj_k (fun w => (ak q).testBit w) (v + 1) (j + 1) = tj_k (fun w => (ak q).testBit w) (v + 1) j + 1 := by
          show tj_k (fun w => (ak q).testBit w) (v + 1) j + (if (ak q).testBit (v + 1 + j) = true then 1 else 0) = _
          rw [if_pos ht]
        rw [e] at k
        exact k
      · have e : tj_k (fun w => (ak q).testBit w) (v + 1) (j + 1) = tj_k (fun w => (ak q).testBit w) (v + 1) j := by
          show tj_k (fun w => (ak q).testBit w) (v + 1) j + (if (ak q).testBit (v + 1 + j) = true then 1 else 0) = _
          rw [if_neg (by rw [hf]; decide)]
          rfl
        rw [e] at k
        exact k
    · have e : j = 4 - v := by omega
      subst e
      have e5 : v + 1 + (4 - v) = 5 := by omega
      rw [e5]
      exact br_t (by decide) h
theorem xx_after {q v : Nat} (hq : q < 2) (hk : ak q < 32) (hv : v < 5) (h : post (nI (tj_k (fun w => (ak q).testBit w) (v + 1) (4 - v)))) : wpX_askedAfter post (L, B, tj_A cn, tj_A ak, tj_A rl, tj_A vr, W, G, A, M) (nI q) (nI v) :=
  nm_r (nI_1 v) ⟨5, xx_after_l hq hk hv 5 0 (by omega) (by omega) h⟩
theorem xx_row_l {p r vs code : Nat} (hp : p < 8) (hW : ∀ c, c < tj_w r → W (3 * p + c) = nI (tj_c r vs c)) (hG : tj_Gv G code) : ∀ n c, c ≤ tj_w r → tj_w r - c < n → post (nI (tj_rp r vs (tj_g code) (tj_w r))) →
    wX_givenRow_15 post (nI p) (nI (tj_w r)) L B (tj_A cn) (tj_A ak) (tj_A rl) (tj_A vr) W G A M n (nI (tj_rp r vs (tj_g code) c)) (nI c) := by
  have hw : tj_w r ≤ 3 := by rcases tj_w_2 r with h | h <;> omega
  intro n
  induction n with
  | zero => intro c _ h; omega
  | succ n ih =>
    intro c h1 h2 h
    rcases Nat.lt_or_ge c (tj_w r) with z | z
    · have := tj_c_lt r vs c
      have eW : W ((nI p * 3 + nI c).toNatClampNeg) = nI (tj_c r vs c) := by rw [tj_e3, nI_clamp (by omega), hW c z]
      refine br_f (nI_ge z (by omega)) ⟨pk_in (3 * p + c) 24 (by omega) (tj_e3 p c), by rw [eW]; exact vp_in_nI this (by decide), nm_r (e' := nI (tj_rp r vs (tj_g code) (c + 1))) ?_ (nm_r (nI_1 c) (ih (c + 1) (by omega) (by omega) h))⟩
      rw [eW, nI_clamp (by omega), hG _ this, tj_mr_5, nI_add, Nat.mul_comm]
      rfl
    · have e : c = tj_w r := by omega
      rw [e]
      exact br_t (nI_le (Nat.le_refl _) (by omega)) h
theorem xx_row {p code : Nat} (hp : p < 8) (ha : tj_At rl vr W) (hG : tj_Gv G code) (h : post (nI (tj_row (rl p) (vr p) (tj_g code)))) : wpX_givenRow post (L, B, tj_A cn, tj_A ak, tj_A rl, tj_A vr, W, G, A, M) (nI p) := by
  obtain ⟨a1, a2, a3⟩ := ha p hp
  refine ⟨vp_in_nI hp (by decide), ?_⟩
  show wpX_columns _ (tj_A rl (nI p).toNatClampNeg)
  rw [nI_clamp (by omega), tj_Ap]
  exact xx_cols a1 ⟨tj_w (rl p) + 1, xx_row_l hp a3 hG _ 0 (by omega) (by omega) h⟩
theorem xx_gta_l {q code : Nat} (hq : q < 2) (hk : ak q < 32) (hG : tj_Gv G code) : ∀ n v, v ≤ 5 → 5 - v < n → post (nI (tj_ao (ak q) (tj_g code) 5)) →
    wX_givenToAsked_4 post (nI q) L B (tj_A cn) (tj_A ak) (tj_A rl) (tj_A vr) W G A M n (nI (tj_ao (ak q) (tj_g code) v)) (nI v) := by
  intro n
  induction n with
  | zero => intro v _ h; omega
  | succ n ih =>
    intro v h1 h2 h
    rcases Nat.lt_or_ge v 5 with z | z
    · have k := ih (v + 1) (by omega) (by omega) h
      refine br_f (nI_ge (b := 5) z (by decide)) ⟨vp_in_nI hq (by decide), ?_⟩
      show wpX_has _ (tj_A ak (nI q).toNatClampNeg) _
      rw [nI_clamp (n := q) (by omega), tj_Ap]
      refine xx_has (by omega) (by omega) (fun ht => br_f (by decide) ⟨vp_in_nI z (by decide), nm_r (e' := nI (tj_ao (ak q) (tj_g code) (v + 1))) ?_ (nm_r (nI_1 v) k)⟩) (fun hf => br_t rfl (nm_r (nI_1 v) ?_))
      · rw [nI_clamp (by omega), hG v z, tj_mr_5, nI_add, Nat.mul_comm]
        have e : tj_ao (ak q) (tj_g code) (v + 1) = 5 * tj_ao (ak q) (tj_g code) v + tj_g code v := if_pos ht
        rw [e]
      · have e : tj_ao (ak q) (tj_g code) (v + 1) = tj_ao (ak q) (tj_g code) v := if_neg (by rw [hf]; decide)
        rw [e] at k
        exact k
    · have e : v = 5 := by omega
      subst e
      exact br_t (by decide) h
theorem xx_gta {q code : Nat} (hq : q < 2) (hk : ak q < 32) (hG : tj_Gv G code) (h : post (nI (tj_ao (ak q) (tj_g code) 5))) : wpX_givenToAsked post (L, B, tj_A cn, tj_A ak, tj_A rl, tj_A vr, W, G, A, M) (nI q) :=
  ⟨6, xx_gta_l hq hk hG 6 0 (by omega) (by omega) h⟩
theorem xx_ca27 {J : Int32 → Int32 → Prop} {v w y : Nat} {z0 z1 : Int32} (hv : v < 5) (hw : w < 5) (hz : z1 + z0 = nI y) (ht : w = v → J (nI (y + 1)) (nI (w + 1))) (hf : w ≠ v → J (nI y) (nI (w + 1))) : wX_choiceAfter_27 post J (nI v) (nI w) z0 z1 L B (tj_A cn) (tj_A ak) (tj_A rl) (tj_A vr) W G A M :=
  nm_r hz (pk_eq w v (fun e => nm_r (nI_1 y) (nm_r (nI_1 w) (ht e))) (fun e => nm_r (nI_1 w) (hf e)))
theorem xx_ca_l {v code : Nat} (hv : v < 5) (hG : tj_Gv G code) : ∀ n w, w ≤ 5 → 5 - w < n → post (nI (tj_ca (tj_g code) v 5)) → wX_choiceAfter_4 post (nI v) L B (tj_A cn) (tj_A ak) (tj_A rl) (tj_A vr) W G A M n (nI (tj_ca (tj_g code) v w)) (nI w) := by
  intro n
  induction n with
  | zero => intro v _ h; omega
  | succ n ih =>
    intro w h1 h2 h
    rcases Nat.lt_or_ge w 5 with z | z
    · have k := ih (w + 1) (by omega) (by omega) h
      have e : tj_ca (tj_g code) v (w + 1) = tj_ca (tj_g code) v w * 5 + (if w ≤ v then tj_g code w else 0) + (if w = v then 1 else 0) := rfl
      refine br_f (nI_ge (b := 5) z (by decide)) (pk_lt v w (fun lt => ?_) (fun ge => ⟨vp_in_nI z (by decide), ?_⟩))
      · refine xx_ca27 (y := tj_ca (tj_g code) v w * 5) hv z (by rw [tj_mr_5, Int32.add_zero]) (fun x => by omega) (fun x => ?_)
        rw [if_neg (show ¬ w ≤ v by omega), if_neg x, Nat.add_zero, Nat.add_zero] at e
        rw [e] at k
        exact k
      · refine xx_ca27 (y := tj_ca (tj_g code) v w * 5 + tj_g code w) hv z (by rw [nI_clamp (by omega), hG w z, tj_mr_5, nI_add]) (fun x => ?_) (fun x => ?_)
        · rw [if_pos (show w ≤ v by omega), if_pos x] at e
          rw [e] at k
          exact k
        · rw [if_pos (show w ≤ v by omega), if_neg x, Nat.add_zero] at e
          rw [e] at k
          exact k
    · have e : w = 5 := by omega
      subst e
      exact br_t (by decide) h
theorem xx_ca {v code : Nat} (hv : v < 5) (hc : code < 3125) (hG : tj_Gv G code) (h : post (nI (tj_x code v))) : wpX_choiceAfter post (L, B, tj_A cn, tj_A ak, tj_A rl, tj_A vr, W, G, A, M) (nI v) := by
  rw [← tj_ca_x (by omega) hc] at h
  exact ⟨6, xx_ca_l hv hG 6 0 (by omega) (by omega) h⟩
end
section
variable {post : SX → Prop} {L : Int32} {B W G A M : Nat → Int32} {cn ak rl vr : Nat → Nat}
theorem xx_cm24 : ∀ n i M, i ≤ 468 → 468 - i < n → (∀ k, k < i → M k = 0) → (∀ M', (∀ k, k < 468 → M' k = 0) → post (L, B, tj_A cn, tj_A ak, tj_A rl, tj_A vr, W, G, A, M')) → wX_clearMarks_24 post L n (nI i) B (tj_A cn) (tj_A ak) (tj_A rl) (tj_A vr) W G A M := by
  intro n
  induction n with
  | zero => intro i _ _ h; omega
  | succ n ih =>
    intro i M h1 h2 hM h
    rcases Nat.lt_or_ge i 468 with z | z
    · refine br_f (nI_ge (b := 468) z (by decide)) ⟨vp_in_nI z (by decide), nm_r (e' := upd M i 0) (by rw [nI_clamp (by omega), tj_vb0]) (nm_r (nI_1 i) (ih (i + 1) _ (by omega) (by omega) (fun k hk => ?_) h))⟩
      by_cases e : k = i
      · subst e; exact pk_us
      · rw [pk_un e]; exact hM k (by omega)
    · have e : i = 468 := by omega
      subst e
      exact br_t (by decide) (h M hM)
theorem xx_cm2 : ∀ n i A, i ≤ 3125 → 3125 - i < n → (∀ k, k < i → A k = 0) → (∀ A' M', (∀ k, k < 3125 → A' k = 0) → (∀ k, k < 468 → M' k = 0) → post (L, B, tj_A cn, tj_A ak, tj_A rl, tj_A vr, W, G, A', M')) → wX_clearMarks_2 post L n (nI i) B (tj_A cn) (tj_A ak) (tj_A rl) (tj_A vr) W G A M := by
  intro n
  induction n with
  | zero => intro i _ _ h; omega
  | succ n ih =>
    intro i A h1 h2 hM h
    rcases Nat.lt_or_ge i 3125 with z | z
    · refine br_f (nI_ge (b := 3125) z (by decide)) ⟨vp_in_nI z (by decide), nm_r (e' := upd A i 0) (by rw [nI_clamp (by omega), tj_vb0]) (nm_r (nI_1 i) (ih (i + 1) _ (by omega) (by omega) (fun k hk => ?_) h))⟩
      by_cases e : k = i
      · subst e; exact pk_us
      · rw [pk_un e]; exact hM k (by omega)
    · have e : i = 3125 := by omega
      subst e
      exact br_t (by decide) ⟨469, xx_cm24 469 0 M (by omega) (by omega) (fun k hk => absurd hk (by omega)) (fun M' hM' => h A M' hM hM')⟩
theorem xx_clear (h : ∀ A' M', (∀ k, k < 3125 → A' k = 0) → (∀ k, k < 468 → M' k = 0) → post (L, B, tj_A cn, tj_A ak, tj_A rl, tj_A vr, W, G, A', M')) : wpX_clearMarks post (L, B, tj_A cn, tj_A ak, tj_A rl, tj_A vr, W, G, A, M) :=
  ⟨3126, xx_cm2 3126 0 A (by omega) (by omega) (fun k hk => absurd hk (by omega)) h⟩
theorem xx_give_l {code : Nat} (hc : code < 2 ^ 31) : ∀ v n G, v < 5 → v + 1 < n → (∀ w, v < w → w < 5 → G w = nI (tj_g code w)) → (∀ G', tj_Gv G' code → post (L, B, tj_A cn, tj_A ak, tj_A rl, tj_A vr, W, G', A, M)) → wX_giveAll_4 post L n (nI (code / 5 ^ (4 - v))) (nI v) B (tj_A cn) (tj_A ak) (tj_A rl) (tj_A vr) W G A M := by
  have hb : ∀ p, code / 5 ^ p < 2 ^ 31 := fun p => Nat.lt_of_le_of_lt (Nat.div_le_self _ _) hc
  have hr : ∀ p, nI (code / 5 ^ p) - nI (code / 5 ^ p) / 5 * 5 = nI (code / 5 ^ p % 5) := fun p => pk_rem (d := 5) (hb p) (by decide) (by decide)
  intro v
  induction v with
  | zero =>
    intro n G _ hn hG h
    obtain ⟨m, rfl⟩ : ∃ m, n = m + 2 := ⟨n - 2, by omega⟩
    refine br_f (by decide) ⟨by decide, vp_in_nI (by decide) (by decide), nm_r (e' := upd G 0 (nI (tj_g code 0))) ?_ ⟨by decide, nm_e (nm_e (br_t (by decide) (h _ ?_)))⟩⟩
    · rw [hr, nI_clamp (by decide)]
      rfl
    · intro w hw
      by_cases e : w = 0
      · subst e; exact pk_us
      · rw [pk_un e]; exact hG w (by omega) hw
  | succ v ih =>
    intro n G h5 hn hG h
    obtain ⟨m, rfl⟩ : ∃ m, n = m + 1 := ⟨n - 1, by omega⟩
    refine br_f (nI_pos (by omega)) ⟨by decide, vp_in_nI h5 (by decide), nm_r (e' := upd G (v + 1) (nI (tj_g code (v + 1)))) ?_ ⟨by decide, nm_r (e' := nI (code / 5 ^ (4 - v))) ?_ (nm_r (pk_m1 v) (ih m _ (by omega) (by omega) (fun w h1 h2 => ?_) h))⟩⟩
    · rw [hr, nI_clamp (by omega)]
      rfl
    · rw [tj_dv_5 (hb _), Nat.div_div_eq_div_mul, ← Nat.pow_succ, show (4 - (v + 1)).succ = 4 - v by omega]
    · by_cases e : w = v + 1
      · subst e; exact pk_us
      · rw [pk_un e]; exact hG w (by omega) h2
theorem xx_give {code : Nat} (hc : code < 2 ^ 31) (h : ∀ G', tj_Gv G' code → post (L, B, tj_A cn, tj_A ak, tj_A rl, tj_A vr, W, G', A, M)) : wpX_giveAll post (L, B, tj_A cn, tj_A ak, tj_A rl, tj_A vr, W, G, A, M) (nI code) := by
  have := xx_give_l (post := post) (L := L) (B := B) (W := W) (A := A) (M := M) (cn := cn) (ak := ak) (rl := rl) (vr := vr) hc 4 6 G (by omega) (by omega) (fun w a b => by omega) h
  rw [Nat.sub_self, Nat.pow_zero, Nat.div_one] at this
  exact ⟨6, this⟩
theorem xx_mm_l {q code : Nat} {P : Nat → Prop} (hq : q < 2) (hc : cn q ≤ 4) (ha : tj_At rl vr W) (hG : tj_Gv G code) : ∀ n i M, i ≤ cn q → cn q - i < n → tj_B M (fun k => P k ∨ ∃ j, j < i ∧ tj_LX (rl (4 * q + j)) (tj_row (rl (4 * q + j)) (vr (4 * q + j)) (tj_g code)) = k) 468 →
    (∀ M', tj_B M' (fun k => P k ∨ ∃ j, j < cn q ∧ tj_LX (rl (4 * q + j)) (tj_row (rl (4 * q + j)) (vr (4 * q + j)) (tj_g code)) = k) 468 → post (L, B, tj_A cn, tj_A ak, tj_A rl, tj_A vr, W, G, A, M')) → wX_markMatches_9 post (nI q) (nI (cn q)) L n (nI i) B (tj_A cn) (tj_A ak) (tj_A rl) (tj_A vr) W G A M := by
  intro n
  induction n with
  | zero => intro i _ _ h; omega
  | succ n ih =>
    intro i M h1 h2 hM h
    rcases Nat.lt_or_ge i (cn q) with z | z
    · obtain ⟨a1, a2, a3⟩ := ha (4 * q + i) (by omega)
      have rlt := tj_row_lt (r := rl (4 * q + i)) (vs := vr (4 * q + i)) (fun v _ => tj_g_lt code v)
      have llt : tj_LX (rl (4 * q + i)) (tj_row (rl (4 * q + i)) (vr (4 * q + i)) (tj_g code)) < 468 := by
        unfold tj_LX
        rcases tj_on (rl (4 * q + i)) with ⟨_, _, _, _⟩ | ⟨_, _, _, _⟩ <;> omega
      refine br_f (nI_ge z (by omega)) (nm_r (tj_e4 q i) (xx_row (by omega) ha hG ⟨vp_in_nI (by omega) (by decide), ?_⟩))
      show wpX_leaf _ (tj_A rl (nI (4 * q + i)).toNatClampNeg) _
      rw [nI_clamp (by omega), tj_Ap]
      refine xx_leaf a1 ⟨vp_in_nI llt (by decide), nm_r (e' := upd M (tj_LX (rl (4 * q + i)) (tj_row (rl (4 * q + i)) (vr (4 * q + i)) (tj_g code))) 1) (by rw [nI_clamp (by omega), tj_vb1]) (nm_r (nI_1 i) (ih (i + 1) _ (by omega) (by omega) (tj_B_c (tj_B_u hM) (fun k _ => ?_)) h))⟩
      constructor
      · rintro ((p | ⟨j, hj, e⟩) | e)
        · exact Or.inl p
        · exact Or.inr ⟨j, by omega, e⟩
        · exact Or.inr ⟨i, by omega, e⟩
      · rintro (p | ⟨j, hj, e⟩)
        · exact Or.inl (Or.inl p)
        · by_cases y : j = i
          · subst y; exact Or.inr e
          · exact Or.inl (Or.inr ⟨j, by omega, e⟩)
    · have e : i = cn q := by omega
      rw [e]
      rw [e] at hM
      exact br_t (nI_le (Nat.le_refl _) (by omega)) (h M hM)
theorem xx_mm {q code : Nat} {P : Nat → Prop} (hq : q < 2) (hc : cn q ≤ 4) (ha : tj_At rl vr W) (hG : tj_Gv G code) (hM : tj_B M P 468)
    (h : ∀ M', tj_B M' (fun k => P k ∨ ∃ j, j < cn q ∧ tj_LX (rl (4 * q + j)) (tj_row (rl (4 * q + j)) (vr (4 * q + j)) (tj_g code)) = k) 468 → post (L, B, tj_A cn, tj_A ak, tj_A rl, tj_A vr, W, G, A, M')) : wpX_markMatches post (L, B, tj_A cn, tj_A ak, tj_A rl, tj_A vr, W, G, A, M) (nI q) := by
  refine ⟨vp_in_nI hq (by decide), nm_r (e' := nI (cn q)) (by rw [nI_clamp (by omega), tj_Ap]) ⟨cn q + 1, xx_mm_l (P := P) hq hc ha hG _ 0 M (by omega) (by omega) (tj_B_c hM (fun k _ => ?_)) h⟩⟩
  exact ⟨Or.inl, fun z => z.elim id (fun ⟨j, hj, _⟩ => absurd hj (by omega))⟩
end
