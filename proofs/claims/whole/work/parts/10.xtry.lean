/-! X: faults; all choices tried -/
def tj_st : Nat → Nat
  | 0 => 0
  | c + 1 => 5 * tj_st c + 1
theorem tj_nz {k : Nat} (hk : k < 2 ^ 31) (h : nI k = 0) : k = 0 := (tj_eq_0 hk).mp h
/-- an empty node on an atom's path: no row for those that keep the path -/
theorem tj_pre {B : Nat → Int32} {th : Nat → Bool} {r vs c : Nat} {g g' : Nat → Nat} (hB : tj_Bl B th) (hr : r < 3) (h0 : 0 < c) (hc : c ≤ tj_w r) (hg : ∀ v, v < 5 → g v < 5) (hg' : ∀ v, v < 5 → g' v < 5)
    (hz : B (156 * r + (tj_st c + tj_rp r vs g c)) = 0) (ha : ∀ i, i < c → g' (tj_c r vs i) = g (tj_c r vs i)) : th (125 * r + tj_row r vs g') = false := by
  have b0 := hg _ (tj_c_lt r vs 0)
  have b1 := hg _ (tj_c_lt r vs 1)
  have b2 := hg _ (tj_c_lt r vs 2)
  have kl : ∀ lo n, n ≤ 125 → tj_k th lo n < 2 ^ 31 := fun lo n h => Nat.lt_of_le_of_lt (tj_k_le th lo n) (by omega)
  rcases tj_on r with ⟨e, w, _, _⟩ | ⟨e, w, _, _⟩
  · subst e
    rw [w] at hc
    have : c = 1 ∨ c = 2 ∨ c = 3 := by omega
    rcases this with rfl | rfl | rfl
    · have e1 : 156 * 2 + (tj_st 1 + tj_rp 2 vs g 1) = 313 + g (tj_c 2 vs 0) := by
        show 156 * 2 + (5 * 0 + 1 + (5 * 0 + g (tj_c 2 vs 0))) = _
        omega
      rw [e1, hB.1.2.2.1 _ b0] at hz
      exact tj_f30 hg' (tj_nz (kl _ _ (by decide)) hz) (ha 0 (by decide))
    · have e1 : 156 * 2 + (tj_st 2 + tj_rp 2 vs g 2) = 318 + (5 * g (tj_c 2 vs 0) + g (tj_c 2 vs 1)) := by
        show 156 * 2 + (5 * (5 * 0 + 1) + 1 + (5 * (5 * 0 + g (tj_c 2 vs 0)) + g (tj_c 2 vs 1))) = _
        omega
      rw [e1, hB.1.2.1 _ (by omega)] at hz
      exact tj_f31 hg' (tj_nz (kl _ _ (by decide)) hz) (ha 0 (by decide)) (ha 1 (by decide))
    · have e1 : 156 * 2 + (tj_st 3 + tj_rp 2 vs g 3) = 343 + tj_row 2 vs g := by
        show 156 * 2 + (5 * (5 * (5 * 0 + 1) + 1) + 1 + tj_row 2 vs g) = _
        omega
      rw [e1, hB.1.1 _ (tj_row_lt hg)] at hz
      have k := tj_k_zero (tj_nz (kl _ _ (by decide)) hz) (250 + tj_row 2 vs g) (by omega) (by omega)
      rw [tj_row_eq (r := 2) (vs := vs) (g := g') (g' := g) ha]
      exact k
  · rw [w] at hc
    have : c = 1 ∨ c = 2 := by omega
    have hn : tj_row r vs g < 25 := by rw [tj_rown e]; omega
    rcases this with rfl | rfl
    · have e1 : 156 * r + (tj_st 1 + tj_rp r vs g 1) = 156 * r + 1 + g (tj_c r vs 0) := by
        show 156 * r + (5 * 0 + 1 + (5 * 0 + g (tj_c r vs 0))) = _
        omega
      rw [e1, (hB.2.1 r (by omega)).2.1 _ b0] at hz
      exact tj_f20 e hg' (tj_nz (kl _ _ (by decide)) hz) (ha 0 (by decide))
    · have e1 : 156 * r + (tj_st 2 + tj_rp r vs g 2) = 156 * r + 6 + tj_row r vs g := by
        rw [tj_rown e]
        show 156 * r + (5 * (5 * 0 + 1) + 1 + (5 * (5 * 0 + g (tj_c r vs 0)) + g (tj_c r vs 1))) = _
        omega
      rw [e1, (hB.2.1 r (by omega)).1 _ hn] at hz
      have k := tj_k_zero (tj_nz (kl _ _ (by decide)) hz) (125 * r + tj_row r vs g) (by omega) (by omega)
      rw [tj_row_eq (g := g') (g' := g) (by rw [w]; exact ha)]
      exact k
/-- nodes lie within -/
theorem tj_node_lt {r vs c : Nat} {g : Nat → Nat} (hr : r < 3) (hc : c ≤ 3) (hg : ∀ v, v < 5 → g v < 5) : 156 * r + (tj_st c + tj_rp r vs g c) < 468 := by
  have := tj_rp_lt (r := r) (vs := vs) hg c
  have h : c = 0 ∨ c = 1 ∨ c = 2 ∨ c = 3 := by omega
  rcases h with rfl | rfl | rfl | rfl
  · have e : tj_st 0 = 0 := rfl
    omega
  · have e : tj_st 1 = 1 := rfl
    omega
  · have e : tj_st 2 = 6 := rfl
    omega
  · have e : tj_st 3 = 31 := rfl
    omega
section
variable {post : Int32 → Prop} {lv : Nat} {th : Nat → Bool} {B W G A M : Nat → Int32} {cn ak rl vr : Nat → Nat}
theorem xx_f86 {J : Int32 → Int32 → Int32 → Prop} {x1 x6 : Int32} {r vs code c m : Nat} (hl : lv < 3) (hr : r < 3) (hc : c < tj_w r) (hG : tj_Gv G code)
    (h0 : B (156 * r + (tj_st (c + 1) + tj_rp r vs (tj_g code) (c + 1))) = 0 → post (nI m)) (hJ : J (nI m) (nI (tj_st (c + 1) + tj_rp r vs (tj_g code) (c + 1))) (nI (c + 1))) :
    wX_faultOf_86 post J x1 (nI r) (nI (tj_st c + tj_rp r vs (tj_g code) c)) x6 (nI c) (nI (tj_c r vs c)) (nI m) (nI lv) B (tj_A cn) (tj_A ak) (tj_A rl) (tj_A vr) W G A M := by
  have hw : tj_w r ≤ 3 := by rcases tj_w_2 r with h | h <;> omega
  have c5 := tj_c_lt r vs c
  have nl := tj_node_lt (r := r) (vs := vs) (c := c + 1) (g := tj_g code) hr (by omega) (fun v _ => tj_g_lt code v)
  refine ⟨vp_in_nI c5 (by decide), nm_r (e' := nI (tj_st (c + 1) + tj_rp r vs (tj_g code) (c + 1))) ?_ (pk_eq lv 2 (fun e => ⟨pk_in _ 468 nl (tj_e156 _ _), ?_⟩) (fun e => nm_r (nI_1 c) hJ))⟩
  · rw [nI_clamp (by omega), hG _ c5, tj_ml_5, tj_ar_1, nI_add]
    refine congrArg nI ?_
    show 5 * (tj_st c + tj_rp r vs (tj_g code) c) + 1 + tj_g code (tj_c r vs c) = (5 * tj_st c + 1) + (5 * tj_rp r vs (tj_g code) c + tj_g code (tj_c r vs c))
    omega
  · rw [tj_e156, nI_clamp (by omega)]
    exact br_c h0 (fun _ => nm_r (nI_1 c) hJ)
theorem xx_f52 {p r vs code : Nat} (hl : lv < 3) (hp : p < 8) (hr : r < 3) (hB : tj_Bl B th) (hW : ∀ c, c < tj_w r → W (3 * p + c) = nI (tj_c r vs c)) (hG : tj_Gv G code) (ht : th (125 * r + tj_row r vs (tj_g code)) = false)
    (h : ∀ f, tj_FA th r vs code f → post (nI f)) : ∀ n c m, c ≤ tj_w r → tj_w r - c < n → (∀ i, i < c → tj_c r vs i ≤ m) → m ≤ 4 →
    wX_faultOf_52 post (nI p) (nI r) (nI (tj_w r)) (nI lv) B (tj_A cn) (tj_A ak) (tj_A rl) (tj_A vr) W G A M n (nI m) (nI (tj_st c + tj_rp r vs (tj_g code) c)) (nI c) := by
  have hw : tj_w r ≤ 3 := by rcases tj_w_2 r with h | h <;> omega
  intro n
  induction n with
  | zero => intro c m _ h; omega
  | succ n ih =>
    intro c m h1 h2 hm h4
    rcases Nat.lt_or_ge c (tj_w r) with z | z
    · have c5 := tj_c_lt r vs c
      have H : ∀ m', tj_c r vs c ≤ m' → m ≤ m' → m' ≤ 4 → wX_faultOf_86 post (wX_faultOf_52 post (nI p) (nI r) (nI (tj_w r)) (nI lv) B (tj_A cn) (tj_A ak) (tj_A rl) (tj_A vr) W G A M n) (nI p) (nI r) (nI (tj_st c + tj_rp r vs (tj_g code) c)) (nI (tj_w r)) (nI c) (nI (tj_c r vs c)) (nI m') (nI lv) B (tj_A cn) (tj_A ak) (tj_A rl) (tj_A vr) W G A M := by
        intro m' q1 q2 q3
        have hm' : ∀ i, i < c + 1 → tj_c r vs i ≤ m' := by
          intro i hi
          by_cases e : i = c
          · subst e; exact q1
          · exact Nat.le_trans (hm i (by omega)) q2
        refine xx_f86 hl hr z hG (fun zz => h m' (Or.inr ⟨q3, fun d hd => ?_⟩)) (ih (c + 1) m' (by omega) (by omega) hm' q3)
        exact tj_pre hB hr (by omega) z (fun v _ => tj_g_lt code v) (fun v _ => tj_g_lt d v) zz (fun i hi => hd _ (hm' i hi))
      refine br_f (nI_ge z (by omega)) ⟨pk_in (3 * p + c) 24 (by omega) (tj_e3 p c), nm_r (e' := nI (tj_c r vs c)) (by rw [tj_e3, nI_clamp (by omega), hW c z]) (pk_le (tj_c r vs c) m (fun le => H m le (Nat.le_refl m) h4) (fun gt => H _ (Nat.le_refl _) (by omega) (by omega)))⟩
    · have e : c = tj_w r := by omega
      subst e
      exact br_t (nI_le (Nat.le_refl _) (by omega)) (h m (Or.inr ⟨h4, fun d hd => tj_fw hm ht hd⟩))
theorem xx_fault {p code : Nat} (hp : p < 8) (hl : lv < 3) (hB : tj_Bl B th) (ha : tj_At rl vr W) (hG : tj_Gv G code) (h : ∀ f, tj_FA th (rl p) (vr p) code f → post (nI f)) : wpX_faultOf post (nI lv, B, tj_A cn, tj_A ak, tj_A rl, tj_A vr, W, G, A, M) (nI p) := by
  obtain ⟨a1, a2, a3⟩ := ha p hp
  have rlt := tj_row_lt (r := rl p) (vs := vr p) (fun v _ => tj_g_lt code v)
  have llt : tj_LX (rl p) (tj_row (rl p) (vr p) (tj_g code)) < 468 := by
    unfold tj_LX
    rcases tj_on (rl p) with ⟨_, _, _, _⟩ | ⟨_, _, _, _⟩ <;> omega
  have c4 : ∀ c, c < tj_w (rl p) → tj_c (rl p) (vr p) c ≤ 4 := fun c _ => by have := tj_c_lt (rl p) (vr p) c; omega
  refine ⟨vp_in_nI hp (by decide), nm_r (e' := nI (rl p)) (by rw [nI_clamp (by omega), tj_Ap]) (xx_row hp ha hG (xx_leaf a1 ⟨vp_in_nI llt (by decide), ?_⟩))⟩
  rw [nI_clamp (by omega)]
  have eB : B (tj_LX (rl p) (tj_row (rl p) (vr p) (tj_g code))) = _ := tj_Bl_leaf hB a1 rlt
  rw [eB]
  cases ht : th (125 * rl p + tj_row (rl p) (vr p) (tj_g code)) with
  | true => exact br_f (by decide) (h 5 (Or.inl ⟨rfl, ht⟩))
  | false =>
    refine br_t (by decide) (pk_eq lv 0 (fun e => h 4 (Or.inr ⟨by decide, fun d hd => tj_fw c4 ht hd⟩)) (fun e => xx_cols a1 ⟨tj_w (rl p) + 1, ?_⟩))
    exact xx_f52 hl hp a1 hB a3 hG ht h _ 0 0 (by omega) (by omega) (fun i hi => by omega) (by omega)
theorem xx_ff_l {q code : Nat} (hq : q < 2) (hc : cn q ≤ 4) (hl : lv < 3) (hB : tj_Bl B th) (ha : tj_At rl vr W) (hG : tj_Gv G code) (h : ∀ f, tj_FS th rl vr (4 * q) (cn q) code f → post (nI f)) : ∀ n i f, i ≤ cn q → cn q - i < n → tj_FS th rl vr (4 * q) i code f →
    wX_firstFault_12 post (nI q) (nI (cn q)) (nI lv) B (tj_A cn) (tj_A ak) (tj_A rl) (tj_A vr) W G A M n (nI f) (nI i) := by
  intro n
  induction n with
  | zero => intro i f _ h; omega
  | succ n ih =>
    intro i f h1 h2 hf
    have f5 := tj_FS_le hf
    rcases Nat.lt_or_ge i (cn q) with z | z
    · refine br_f (nI_ge z (by omega)) ?_
      rw [tj_e4]
      refine xx_fault (by omega) hl hB ha hG (fun e he => ?_)
      have e5 := tj_FA_le he
      exact pk_le f e (fun le => nm_r (nI_1 i) (ih (i + 1) f (by omega) (by omega) (tj_FS_hi hf he le))) (fun gt => nm_r (nI_1 i) (ih (i + 1) e (by omega) (by omega) (tj_FS_lo he gt f5)))
    · have e : i = cn q := by omega
      subst e
      exact br_t (nI_le (Nat.le_refl _) (by omega)) (h f hf)
theorem xx_ff {q code : Nat} (hq : q < 2) (hc : cn q ≤ 4) (hl : lv < 3) (hB : tj_Bl B th) (ha : tj_At rl vr W) (hG : tj_Gv G code) (h : ∀ f, tj_FS th rl vr (4 * q) (cn q) code f → post (nI f)) : wpX_firstFault post (nI lv, B, tj_A cn, tj_A ak, tj_A rl, tj_A vr, W, G, A, M) (nI q) :=
  ⟨vp_in_nI hq (by decide), nm_r (e' := nI (cn q)) (by rw [nI_clamp (by omega), tj_Ap]) ⟨cn q + 1, xx_ff_l hq hc hl hB ha hG h _ 0 5 (by omega) (by omega) (tj_FS_0 th rl vr (4 * q) code)⟩⟩
end
section
variable {post : SX → Prop} {lv : Nat} {th : Nat → Bool} {B W G A M : Nat → Int32} {cn ak rl vr : Nat → Nat}
theorem xx_try_l {q : Nat} (hq : q < 2) (hc : cn q ≤ 4) (hk : ak q < 32) (hl : lv < 3) (hB : tj_Bl B th) (ha : tj_At rl vr W)
    (h : ∀ G A M, tj_B A (tj_PA th rl vr (4 * q) (cn q) (ak q) 3125) 3125 → tj_B M (tj_PM tj_LX th rl vr (4 * q) (cn q) 3125) 468 → post (nI lv, B, tj_A cn, tj_A ak, tj_A rl, tj_A vr, W, G, A, M)) :
    ∀ n t c G A M, t ≤ c → c ≤ 3125 → 3125 - t < n → tj_B A (tj_PA th rl vr (4 * q) (cn q) (ak q) c) 3125 → tj_B M (tj_PM tj_LX th rl vr (4 * q) (cn q) c) 468 →
    wX_tryChoices_8 post (nI q) n (nI c) (nI t) (nI lv) B (tj_A cn) (tj_A ak) (tj_A rl) (tj_A vr) W G A M := by
  intro n
  induction n with
  | zero => intro t c G A M _ _ h; omega
  | succ n ih =>
    intro t c G A M htc hc5 hn hA hM
    by_cases e : c = 3125
    · subst e
      exact br_c (fun _ => h G A M hA hM) (fun _ => br_t (by decide) (h G A M hA hM))
    · have cl : c < 3125 := by omega
      refine br_f (nI_ge (b := 3125) (by omega) (by decide)) (br_f (nI_ge (b := 3125) cl (by decide)) (xx_give (by omega) (fun G' hG' => xx_ff hq hc hl hB ha hG' (fun f hf => ?_))))
      have f5 := tj_FS_le hf
      refine pk_eq f 5 (fun e5 => ?_) (fun e5 => ?_)
      · subst e5
        have hch : tj_ch th rl vr (4 * q) (cn q) (tj_g c) := by
          rcases hf with ⟨_, z⟩ | ⟨z, _⟩
          · exact z
          · omega
        have ao := tj_ao_lt (a := ak q) (g := tj_g c) (fun v _ => tj_g_lt c v) 5 (Nat.le_refl 5)
        refine xx_gta hq hk hG' ⟨vp_in_nI ao (by decide), nm_r (e' := upd A (tj_ao (ak q) (tj_g c) 5) 1) (by rw [nI_clamp (Nat.lt_trans ao (by decide)), tj_vb1]) (xx_mm hq hc ha hG' hM (fun M' hM' => ?_))⟩
        refine xx_ca (v := 4) (by decide) cl hG' (nm_r (nI_1 t) ?_)
        rw [tj_x_4]
        exact ih (t + 1) (c + 1) _ _ _ (by omega) (by omega) (by omega) (tj_B_c (tj_B_u hA) (fun k _ => tj_PA_one hch)) (tj_B_c hM' (fun k _ => tj_PM_one hch))
      · have gt := tj_x_gt c f
        have sk := tj_skip hf (by omega)
        refine xx_ca (by omega) cl hG' (nm_r (nI_1 t) ?_)
        exact ih (t + 1) (tj_x c f) _ _ _ (by omega) (tj_x_le (by omega) cl) (by omega) (tj_B_c hA (fun k _ => tj_PA_skip (by omega) sk)) (tj_B_c hM (fun k _ => tj_PM_skip (by omega) sk))
theorem xx_try {q : Nat} (hq : q < 2) (hc : cn q ≤ 4) (hk : ak q < 32) (hl : lv < 3) (hB : tj_Bl B th) (ha : tj_At rl vr W)
    (h : ∀ G A M, tj_B A (tj_PA th rl vr (4 * q) (cn q) (ak q) 3125) 3125 → tj_B M (tj_PM tj_LX th rl vr (4 * q) (cn q) 3125) 468 → post (nI lv, B, tj_A cn, tj_A ak, tj_A rl, tj_A vr, W, G, A, M)) : wpX_tryChoices post (nI lv, B, tj_A cn, tj_A ak, tj_A rl, tj_A vr, W, G, A, M) (nI q) := by
  unfold wpX_tryChoices
  refine xx_clear (fun A' M' hA' hM' => ⟨3126, ?_⟩)
  exact xx_try_l hq hc hk hl hB ha h 3126 0 0 _ _ _ (by omega) (by omega) (by omega) (tj_B_0 hA' (fun k => tj_PA_0)) (tj_B_0 hM' (fun k => tj_PM_0))
end
