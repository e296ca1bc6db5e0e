/-! X: paths, atoms, renamings -/
section
variable {post : SX → Prop} {dl : Int32} {L : Int32} {B W G A M : Nat → Int32} {cn ak rl vr : Nat → Nat}
theorem xx_cp {n r node d idx nd : Nat} (hd : d < 1000) (h1 : 0 < node) (e : 156 * r + node = idx) (hi : idx < 468) (e2 : (node - 1) / 5 = nd)
    (hk : wX_changePath_13 post (nI r) dl L n (nI nd) (nI d) (upd B idx (B idx + dl)) (tj_A cn) (tj_A ak) (tj_A rl) (tj_A vr) W G A M) : wX_changePath_13 post (nI r) dl L (n + 1) (nI node) (nI (d + 1)) B (tj_A cn) (tj_A ak) (tj_A rl) (tj_A vr) W G A M := by
  have e3 : nI r * 156 + nI node = nI idx := by rw [tj_e156, e]
  have e4 : (nI node - 1) / 5 = nI nd := by rw [tj_s1 h1, tj_dv_5 (by omega), e2]
  refine br_f (nI_pos (by omega)) ⟨pk_in idx 468 hi e3, pk_in idx 468 hi e3, nm_r (e' := upd B idx (B idx + dl)) (by rw [e3, nI_clamp (by omega)]) ⟨by decide, nm_r e4 (nm_r (pk_m1 d) hk)⟩⟩
theorem xx_cp0 {n r idx : Nat} (e : 156 * r + 0 = idx) (hi : idx < 468) (hk : post (L, upd B idx (B idx + dl), tj_A cn, tj_A ak, tj_A rl, tj_A vr, W, G, A, M)) : wX_changePath_13 post (nI r) dl L (n + 2) (nI 0) (nI 0) B (tj_A cn) (tj_A ak) (tj_A rl) (tj_A vr) W G A M := by
  have e3 : nI r * 156 + nI 0 = nI idx := by rw [tj_e156, e]
  refine br_f (by decide) ⟨pk_in idx 468 hi e3, pk_in idx 468 hi e3, nm_r (e' := upd B idx (B idx + dl)) (by rw [e3, nI_clamp (by omega)]) ⟨by decide, nm_e (nm_e (br_t (by decide) hk))⟩⟩
theorem xx_path {th th' : Nat → Bool} {r row : Nat} (hB : tj_Bl B th) (hr : r < 3) (hw : row < tj_n r)
    (hi : ∀ lo n, lo ≤ 125 * r + row → 125 * r + row < lo + n → nI (tj_k th lo n) + dl = nI (tj_k th' lo n))
    (ho : ∀ lo n, ¬ (lo ≤ 125 * r + row ∧ 125 * r + row < lo + n) → tj_k th' lo n = tj_k th lo n) (hz : ∀ j, j ≠ 125 * r + row → th' j = th j)
    (h : ∀ B', tj_Bl B' th' → post (L, B', tj_A cn, tj_A ak, tj_A rl, tj_A vr, W, G, A, M)) : wpX_changePath post (L, B, tj_A cn, tj_A ak, tj_A rl, tj_A vr, W, G, A, M) (nI r) (nI row) dl := by
  unfold wpX_changePath
  refine xx_lit hr (xx_cols hr ⟨5, ?_⟩)
  rcases tj_on r with ⟨e, w, n, o⟩ | ⟨e, w, n, o⟩
  · subst e
    rw [o, w]
    rw [n] at hw
    exact xx_cp (idx := 343 + row) (nd := 6 + row / 5) (by omega) (by omega) (by omega) (by omega) (by omega)
      (xx_cp (idx := 318 + row / 5) (nd := 1 + row / 25) (by omega) (by omega) (by omega) (by omega) (by omega)
      (xx_cp (idx := 313 + row / 25) (nd := 0) (by omega) (by omega) (by omega) (by omega) (by omega)
      (xx_cp0 (idx := 312) (by omega) (by omega) (h _ (tj_path_w hB hw hi ho hz _ _ _ _ rfl rfl rfl rfl)))))
  · rw [o, w]
    rw [n] at hw
    exact xx_cp (idx := 156 * r + 6 + row) (nd := 1 + row / 5) (by omega) (by omega) (by omega) (by omega) (by omega)
      (xx_cp (idx := 156 * r + 1 + row / 5) (nd := 0) (by omega) (by omega) (by omega) (by omega) (by omega)
      (xx_cp0 (idx := 156 * r) (by omega) (by omega) (h _ (tj_path_n hB (by omega) hw hi ho hz _ _ _ rfl rfl rfl))))
theorem xx_put_l {p r vs : Nat} {W0 : Nat → Int32} (hp : p < 8) (hr : r < 3) (hv : vs < 125) (h : ∀ W', (∀ j, (j < 3 * p ∨ 3 * p + 3 ≤ j) → W' j = W0 j) → (∀ c, c < tj_w r → W' (3 * p + c) = nI (tj_c r vs c)) → post (L, B, tj_A cn, tj_A ak, tj_A rl, tj_A vr, W', G, A, M)) :
    ∀ n c W, c ≤ tj_w r → tj_w r - c < n → (∀ j, (j < 3 * p ∨ 3 * p + 3 ≤ j) → W j = W0 j) → (∀ i, i < c → W (3 * p + i) = nI (tj_c r vs i)) → wX_putAtom_23 post (nI p) (nI vs) (nI (tj_w r)) L n (nI c) B (tj_A cn) (tj_A ak) (tj_A rl) (tj_A vr) W G A M := by
  have hw : tj_w r ≤ 3 := by rcases tj_w_2 r with h | h <;> omega
  intro n
  induction n with
  | zero => intro c W _ h; omega
  | succ n ih =>
    intro c W h1 h2 ho hi
    rcases Nat.lt_or_ge c (tj_w r) with z | z
    · refine br_f (nI_ge z (by omega)) ?_
      rw [tj_s1 (by omega), pk_sub (show c ≤ tj_w r - 1 by omega)]
      refine xx_dig (by omega) (by omega) ⟨pk_in (3 * p + c) 24 (by omega) (tj_e3 p c), nm_r (e' := upd W (3 * p + c) (nI (tj_c r vs c))) ?_ (nm_r (nI_1 c) (ih (c + 1) _ (by omega) (by omega) (fun j hj => ?_) (fun i hc => ?_)))⟩
      · rw [tj_e3, nI_clamp (by omega)]
        rfl
      · rw [pk_un (by omega)]
        exact ho j hj
      · by_cases e : i = c
        · subst e; exact pk_us
        · rw [pk_un (by omega)]
          exact hi i (by omega)
    · have e : c = tj_w r := by omega
      subst e
      exact br_t (nI_le (Nat.le_refl _) (by omega)) (h W ho hi)
theorem xx_put {p r vs : Nat} (hp : p < 8) (hr : r < 3) (hv : vs < tj_n r) (ha : tj_At rl vr W) (h : ∀ W', tj_At (tj_u rl p r) (tj_u vr p vs) W' → post (L, B, tj_A cn, tj_A ak, tj_A (tj_u rl p r), tj_A (tj_u vr p vs), W', G, A, M)) : wpX_putAtom post (L, B, tj_A cn, tj_A ak, tj_A rl, tj_A vr, W, G, A, M) (nI p) (nI r) (nI vs) := by
  have n5 : tj_n r ≤ 125 := by rcases tj_on r with ⟨_, _, _, _⟩ | ⟨_, _, _, _⟩ <;> omega
  refine ⟨vp_in_nI hp (by decide), nm_r (e' := tj_A (tj_u rl p r)) (by rw [nI_clamp (by omega), tj_A_u]) ⟨vp_in_nI hp (by decide), nm_r (e' := tj_A (tj_u vr p vs)) (by rw [nI_clamp (by omega), tj_A_u]) (xx_cols hr ⟨tj_w r + 1, ?_⟩)⟩⟩
  refine xx_put_l (W0 := W) hp hr (by omega) (fun W' ho hi => h W' ?_) _ 0 W (by omega) (by omega) (fun j _ => rfl) (fun i hi => by omega)
  intro x hx
  by_cases e : x = p
  · subst e
    rw [tj_u_s, tj_u_s]
    exact ⟨hr, hv, hi⟩
  · rw [tj_u_n e, tj_u_n e]
    obtain ⟨a1, a2, a3⟩ := ha x hx
    refine ⟨a1, a2, fun c hc => ?_⟩
    have hw : tj_w (rl x) ≤ 3 := by rcases tj_w_2 (rl x) with h | h <;> omega
    rw [ho _ (by omega)]
    exact a3 c hc
end
/-- what cut does to a row of cells -/
def tj_cut (f : Nat → Nat) (lo : Nat) : Nat → (Nat → Nat)
  | 0 => f
  | n + 1 => tj_u (tj_cut f lo n) (lo + n) (tj_cut f lo n (lo + n + 1))
section
variable {post : Int32 → SX → Prop} {L : Int32} {B W G A M : Nat → Int32} {cn ak rl vr : Nat → Nat}
theorem xx_cut_l {q i left : Nat} (hq : q < 2) (hl : left ≤ 3) (hi : i ≤ left) (h : ∀ W', tj_At (tj_cut rl (4 * q + i) (left - i)) (tj_cut vr (4 * q + i) (left - i)) W' → post (nI left) (L, B, tj_A (tj_u cn q left), tj_A ak, tj_A (tj_cut rl (4 * q + i) (left - i)), tj_A (tj_cut vr (4 * q + i) (left - i)), W', G, A, M)) :
    ∀ n j W, j ≤ left - i → left - i - j < n → tj_At (tj_cut rl (4 * q + i) j) (tj_cut vr (4 * q + i) j) W → wX_cut_35 post (nI q) (nI left) n (nI (i + j)) L B (tj_A cn) (tj_A ak) (tj_A (tj_cut rl (4 * q + i) j)) (tj_A (tj_cut vr (4 * q + i) j)) W G A M := by
  intro n
  induction n with
  | zero => intro j W _ h; omega
  | succ n ih =>
    intro j W h1 h2 ha
    rcases Nat.lt_or_ge j (left - i) with z | z
    · obtain ⟨a1, a2, a3⟩ := ha (4 * q + i + j + 1) (by omega)
      have e : nI (4 * q + (i + j)) + 1 = nI (4 * q + i + j + 1) := by rw [nI_1]; exact congrArg nI (by omega)
      refine br_f (nI_ge (by omega) (by omega)) (nm_r (tj_e4 q (i + j)) ⟨pk_in (4 * q + i + j + 1) 8 (by omega) e, pk_in (4 * q + i + j + 1) 8 (by omega) e, ?_⟩)
      rw [e, nI_clamp (by omega), tj_Ap, tj_Ap, show 4 * q + (i + j) = 4 * q + i + j by omega]
      refine xx_put (by omega) a1 a2 ha (fun W' ha' => nm_r (nI_1 (i + j)) ?_)
      exact ih (j + 1) W' (by omega) (by omega) ha'
    · have e : j = left - i := by omega
      subst e
      have e2 : i + (left - i) = left := by omega
      rw [e2]
      exact br_t (nI_le (Nat.le_refl _) (by omega)) ⟨vp_in_nI hq (by decide), nm_r (e' := tj_A (tj_u cn q left)) (by rw [nI_clamp (by omega), tj_A_u]) (h W ha)⟩
end
section
variable {post : Int32 → Prop} {L : Int32} {B W G A M : Nat → Int32} {cn ak rl vr : Nat → Nat}
theorem xx_find_l {q r x : Nat} (hq : q < 2) (hc : cn q ≤ 4) (hr : r < 3) (hx : x < 125) (ha : tj_At rl vr W) (h1 : ∀ j, tj_Fst rl vr (4 * q) (cn q) r x j → post (nI j)) (h0 : (∀ j, j < cn q → ¬ (rl (4 * q + j) = r ∧ vr (4 * q + j) = x)) → post (-1)) :
    ∀ n i, i ≤ cn q → cn q - i < n → (∀ j, j < i → ¬ (rl (4 * q + j) = r ∧ vr (4 * q + j) = x)) → wX_findAtom_11 post (nI q) (nI r) (nI x) (nI (cn q)) L B (tj_A cn) (tj_A ak) (tj_A rl) (tj_A vr) W G A M n (nI i) := by
  intro n
  induction n with
  | zero => intro i _ h; omega
  | succ n ih =>
    intro i k1 k2 hn
    rcases Nat.lt_or_ge i (cn q) with z | z
    · obtain ⟨a1, a2, a3⟩ := ha (4 * q + i) (by omega)
      have v5 : vr (4 * q + i) < 125 := by rcases tj_on (rl (4 * q + i)) with ⟨_, _, _, _⟩ | ⟨_, _, _, _⟩ <;> omega
      have nx : ¬ (rl (4 * q + i) = r ∧ vr (4 * q + i) = x) → wX_findAtom_11 post (nI q) (nI r) (nI x) (nI (cn q)) L B (tj_A cn) (tj_A ak) (tj_A rl) (tj_A vr) W G A M n (nI (i + 1)) := by
        intro hne
        refine ih (i + 1) (by omega) (by omega) (fun j hj => ?_)
        by_cases e : j = i
        · subst e; exact hne
        · exact hn j (by omega)
      refine br_f (nI_ge z (by omega)) (nm_r (tj_e4 q i) ⟨vp_in_nI (by omega) (by decide), ?_⟩)
      rw [nI_clamp (n := 4 * q + i) (by omega)]
      exact pk_eq (rl (4 * q + i)) r (fun e1 => ⟨vp_in_nI (by omega) (by decide), pk_eq (vr (4 * q + i)) x (fun e2 => h1 i ⟨z, ⟨e1, e2⟩, hn⟩) (fun e2 => nm_r (nI_1 i) (nx (fun y => e2 y.2)))⟩) (fun e1 => nm_r (nI_1 i) (nx (fun y => e1 y.1)))
    · have e : i = cn q := by omega
      rw [e]
      rw [e] at hn
      exact br_t (nI_le (Nat.le_refl _) (by omega)) (h0 hn)
theorem xx_find {q r x : Nat} (hq : q < 2) (hc : cn q ≤ 4) (hr : r < 3) (hx : x < 125) (ha : tj_At rl vr W) (h1 : ∀ j, tj_Fst rl vr (4 * q) (cn q) r x j → post (nI j)) (h0 : (∀ j, j < cn q → ¬ (rl (4 * q + j) = r ∧ vr (4 * q + j) = x)) → post (-1)) :
    wpX_findAtom post (L, B, tj_A cn, tj_A ak, tj_A rl, tj_A vr, W, G, A, M) (nI q) (nI r) (nI x) :=
  ⟨vp_in_nI hq (by decide), nm_r (e' := nI (cn q)) (by rw [nI_clamp (by omega), tj_Ap]) ⟨cn q + 1, xx_find_l hq hc hr hx ha h1 h0 _ 0 (by omega) (by omega) (fun j hj => by omega)⟩⟩
end
section
variable {post : Int32 → SX → Prop} {L : Int32} {B W G A M : Nat → Int32} {cn ak rl vr : Nat → Nat}
theorem xx_ren62 {f t code : Nat} (hf : f < 2) (ht : t < 2) (hcf : cn f ≤ 4) (hct : cn t ≤ 4) (ha : tj_At rl vr W) (hG : tj_Gv G code) (h1 : ∀ R, tj_Im rl vr (tj_g code) (4 * f) (cn f) (4 * t) (cn t) R → post (nI R) (L, B, tj_A cn, tj_A ak, tj_A rl, tj_A vr, W, G, A, M))
    (h0 : (∃ i, i < cn f ∧ ∀ j, j < cn t → ¬ (rl (4 * t + j) = rl (4 * f + i) ∧ vr (4 * t + j) = tj_row (rl (4 * f + i)) (vr (4 * f + i)) (tj_g code))) → post 0 (L, B, tj_A cn, tj_A ak, tj_A rl, tj_A vr, W, G, A, M)) :
    ∀ n i R, i ≤ cn f → cn f - i < n → tj_Im rl vr (tj_g code) (4 * f) i (4 * t) (cn t) R → wX_renamedAtoms_62 post (nI f) (nI t) (nI (cn f)) L B (tj_A cn) (tj_A ak) (tj_A rl) (tj_A vr) W G A M n (nI R) (nI i) := by
  intro n
  induction n with
  | zero => intro i R _ h; omega
  | succ n ih =>
    intro i R k1 k2 hI
    rcases Nat.lt_or_ge i (cn f) with z | z
    · obtain ⟨a1, a2, a3⟩ := ha (4 * f + i) (by omega)
      have rlt := tj_row_lt (r := rl (4 * f + i)) (vs := vr (4 * f + i)) (fun v _ => tj_g_lt code v)
      have r5 : tj_row (rl (4 * f + i)) (vr (4 * f + i)) (tj_g code) < 125 := by rcases tj_on (rl (4 * f + i)) with ⟨_, _, _, _⟩ | ⟨_, _, _, _⟩ <;> omega
      refine br_f (nI_ge z (by omega)) (nm_r (tj_e4 f i) (xx_row (by omega) ha hG ⟨vp_in_nI (by omega) (by decide), ?_⟩))
      rw [nI_clamp (n := 4 * f + i) (by omega)]
      refine xx_find (r := rl (4 * f + i)) ht hct a1 r5 ha (fun j hj => br_t (nI_pos' (by have := hj.1; omega)) (nm_r (e' := nI (R ||| 2 ^ j)) (by rw [tj_shl (by have := hj.1; omega), tj_or]) (nm_r (nI_1 i) (ih (i + 1) _ (by omega) (by omega) (tj_Im_s hI hj))))) (fun no => br_f (by decide) (h0 ⟨i, z, no⟩))
    · have e : i = cn f := by omega
      rw [e]
      rw [e] at hI
      exact br_t (nI_le (Nat.le_refl _) (by omega)) (h1 R hI)
theorem xx_ren8 {f t code : Nat} (hf : f < 2) (ht : t < 2) (hcf : cn f ≤ 4) (hct : cn t ≤ 4) (hk : ak f < 32) (ha : tj_At rl vr W) (hG : tj_Gv G code) (h : ∀ R, tj_RS rl vr (ak f) (tj_g code) (4 * f) (cn f) (4 * t) (cn t) R → R < 16 → post (nI R) (L, B, tj_A cn, tj_A ak, tj_A rl, tj_A vr, W, G, A, M)) :
    ∀ n v, v ≤ 5 → 5 - v < n → (∀ w, w < v → (ak f).testBit w = true → tj_g code w = w) → wX_renamedAtoms_8 post (nI f) (nI t) L B (tj_A cn) (tj_A ak) (tj_A rl) (tj_A vr) W G A M n (nI v) := by
  intro n
  induction n with
  | zero => intro v _ h; omega
  | succ n ih =>
    intro v k1 k2 hv
    rcases Nat.lt_or_ge v 5 with z | z
    · have nx : ((ak f).testBit v = true → tj_g code v = v) → wX_renamedAtoms_8 post (nI f) (nI t) L B (tj_A cn) (tj_A ak) (tj_A rl) (tj_A vr) W G A M n (nI (v + 1)) := by
        intro q
        refine ih (v + 1) (by omega) (by omega) (fun w hw => ?_)
        by_cases e : w = v
        · subst e; exact q
        · exact hv w (by omega)
      refine br_f (nI_ge (b := 5) z (by decide)) ⟨vp_in_nI hf (by decide), ?_⟩
      show wpX_has _ (tj_A ak (nI f).toNatClampNeg) _
      rw [nI_clamp (n := f) (by omega), tj_Ap]
      refine xx_has (by omega) (by omega) (fun hb => br_f (by decide) ⟨vp_in_nI z (by decide), ?_⟩) (fun hb => br_t rfl (nm_r (nI_1 v) (nx (fun y => by rw [hb] at y; exact absurd y (by decide)))))
      have := tj_g_lt code v
      rw [nI_clamp (by omega), hG v z]
      exact pk_eq (tj_g code v) v (fun e => nm_r (nI_1 v) (nx (fun _ => e))) (fun e => h 0 (Or.inl ⟨rfl, fun A hA => e (hA.1 v z hb)⟩) (by decide))
    · have e : v = 5 := by omega
      subst e
      refine br_t (by decide) ⟨vp_in_nI hf (by decide), nm_r (e' := nI (cn f)) (by rw [nI_clamp (by omega), tj_Ap]) ⟨cn f + 1, xx_ren62 hf ht hcf hct ha hG (fun R hR => h R (Or.inr ⟨hv, hR⟩) ?_) (fun ⟨i, hi, no⟩ => h 0 (Or.inl ⟨rfl, fun A hA => ?_⟩) (by decide)) _ 0 0 (by omega) (by omega) tj_Im_0⟩⟩
      · have p := tj_p1 hct
        have := tj_Im_lt hR
        omega
      · obtain ⟨j, hj, _, e1, e2⟩ := hA.2 i hi
        exact no j hj ⟨e1, e2⟩
theorem xx_ren {f t code : Nat} (hf : f < 2) (ht : t < 2) (hcf : cn f ≤ 4) (hct : cn t ≤ 4) (hk : ak f < 32) (ha : tj_At rl vr W) (hc : code < 2 ^ 31) (h : ∀ G R, tj_RS rl vr (ak f) (tj_g code) (4 * f) (cn f) (4 * t) (cn t) R → R < 16 → post (nI R) (L, B, tj_A cn, tj_A ak, tj_A rl, tj_A vr, W, G, A, M)) : wpX_renamedAtoms post (L, B, tj_A cn, tj_A ak, tj_A rl, tj_A vr, W, G, A, M) (nI f) (nI t) (nI code) := by
  unfold wpX_renamedAtoms
  refine xx_give hc (fun G' hG' => ⟨6, ?_⟩)
  exact xx_ren8 hf ht hcf hct hk ha hG' (fun R a b => h G' R a b) 6 0 (by omega) (by omega) (fun w hw => by omega)
end
