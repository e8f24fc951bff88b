/-! a shift, town by town -/
def tr_cv (z : Int32) : Nat := if 0 ≤ z then (if z ≤ 60 then z.toNatClampNeg else 60) else 0
theorem tr_cv_in {z : Int32} (h0 : 0 ≤ z) (h1 : z ≤ 60) : z = nI (tr_cv z) ∧ tr_cv z ≤ 60 := by
  obtain ⟨c, hc, ez⟩ := nI_of2 (M := 60) (n := 60) (by decide) (Int32.not_lt.mpr h0) h1
  unfold tr_cv
  rw [if_pos h0, if_pos h1, ez, nI_clamp (by omega)]
  exact ⟨rfl, hc⟩
theorem tr_cv_hi {z : Int32} (h0 : 0 ≤ z) (h1 : ¬ z ≤ 60) : tr_cv z = 60 := by
  unfold tr_cv
  rw [if_pos h0, if_neg h1]
theorem tr_cv_lo {z : Int32} (h0 : ¬ 0 ≤ z) : tr_cv z = 0 := by
  unfold tr_cv
  rw [if_neg h0]
theorem tr_cv_le (z : Int32) : tr_cv z ≤ 60 := by
  by_cases h0 : 0 ≤ z
  · by_cases h1 : z ≤ 60
    · exact (tr_cv_in h0 h1).2
    · rw [tr_cv_hi h0 h1]; exact Nat.le_refl _
  · rw [tr_cv_lo h0]; omega
theorem tx_cl {post : Int32 → Prop} {z : Int32} (K : post (nI (tr_cv z))) : wpX_clamp post z 0 60 := by
  by_cases h0 : 0 ≤ z
  · by_cases h1 : z ≤ 60
    · rw [← (tr_cv_in h0 h1).1] at K
      exact br_t h0 (br_t h1 K)
    · rw [tr_cv_hi h0 h1] at K
      exact br_t h0 (br_f h1 K)
  · rw [tr_cv_lo h0] at K
    exact br_f h0 K
/-- the lengths and the count after the towns below v -/
def tr_sh (u : Nat) (y : Int32) (L0 : Nat → Nat) : Nat → (Nat → Nat) × Nat
  | 0 => (L0, 0)
  | v + 1 => if v = u then tr_sh u y L0 v else
      (tr_pt (tr_sh u y L0 v).1 u v (tr_cv (nI ((tr_sh u y L0 v).1 (7 * u + v)) + y)),
        (tr_sh u y L0 v).2 + (if tr_cv (nI ((tr_sh u y L0 v).1 (7 * u + v)) + y) = (tr_sh u y L0 v).1 (7 * u + v) then 0 else 1))
theorem tr_sh_e {u : Nat} {y : Int32} {L0 : Nat → Nat} {v : Nat} (h : v = u) : tr_sh u y L0 (v + 1) = tr_sh u y L0 v := by
  rw [tr_sh, if_pos h]
theorem tr_sh_n {u : Nat} {y : Int32} {L0 : Nat → Nat} {v : Nat} (h : v ≠ u) : tr_sh u y L0 (v + 1) = (tr_pt (tr_sh u y L0 v).1 u v (tr_cv (nI ((tr_sh u y L0 v).1 (7 * u + v)) + y)),
        (tr_sh u y L0 v).2 + (if tr_cv (nI ((tr_sh u y L0 v).1 (7 * u + v)) + y) = (tr_sh u y L0 v).1 (7 * u + v) then 0 else 1)) := by
  rw [tr_sh, if_neg h]
theorem tr_sh_b {u : Nat} {y : Int32} {L0 : Nat → Nat} (h : ∀ j, j < 49 → L0 j ≤ 60) : ∀ v, ∀ j, j < 49 → (tr_sh u y L0 v).1 j ≤ 60 := by
  intro v
  induction v with
  | zero => exact h
  | succ v ih =>
    by_cases z : v = u
    · rw [tr_sh_e z]; exact ih
    · rw [tr_sh_n z]; exact tr_pt_b ih (tr_cv_le _)
theorem tr_sh_y {u : Nat} {y : Int32} {L0 : Nat → Nat} (hu : u < 7) (h : tr_Sy L0) : ∀ v, v ≤ 7 → tr_Sy (tr_sh u y L0 v).1 := by
  intro v
  induction v with
  | zero => intro _; exact h
  | succ v ih =>
    intro hv
    by_cases z : v = u
    · rw [tr_sh_e z]; exact ih (by omega)
    · rw [tr_sh_n z]; exact tr_pt_y (ih (by omega)) hu (by omega)
theorem tx_sf {post : Int32 → SX → Prop} {fn fb fc fs fm y : Int32} {aL aT aB aG aJ : Nat → Int32} {L : Nat → Nat} {a b : Nat} (ha : a < 7) (hb : b < 7) (hl : tr_Rp 49 aL L) (hL : ∀ j, j < 49 → L j ≤ 60)
    (K0 : tr_cv (nI (L (7 * a + b)) + y) = L (7 * a + b) → ∀ aL, tr_Rp 49 aL (tr_pt L a b (tr_cv (nI (L (7 * a + b)) + y))) → post 0 (fn, fb, fc, fs, fm, aL, aT, aB, aG, aJ))
    (K1 : tr_cv (nI (L (7 * a + b)) + y) ≠ L (7 * a + b) → ∀ aL, tr_Rp 49 aL (tr_pt L a b (tr_cv (nI (L (7 * a + b)) + y))) → post 1 (fn, fb, fc, fs, fm, aL, aT, aB, aG, aJ)) :
    wpX_shiftLength post (fn, fb, fc, fs, fm, aL, aT, aB, aG, aJ) (nI a) (nI b) y := by
  have c1 := tr_cv_le (nI (L (7 * a + b)) + y)
  have c2 := hL (7 * a + b) (by omega)
  unfold wpX_shiftLength
  dsimp only
  refine tx_lb hl (by omega) (tx_cl (tx_sl ha hb hl (fun aL' h' => ?_)))
  dsimp only
  exact pk_eq _ _ (fun e => K0 e aL' h') (fun e => K1 e aL' h')
theorem tx_sh_l {post : Int32 → SX → Prop} {fb fc fs fm y : Int32} {aT aB aG aJ : Nat → Int32} {L : Nat → Nat} {n u : Nat} (h7 : n ≤ 7) (hu : u < n) (hL : ∀ j, j < 49 → L j ≤ 60)
    (K : ∀ aL, tr_Rp 49 aL (tr_sh u y L n).1 → post (nI (tr_sh u y L n).2) (nI n, fb, fc, fs, fm, aL, aT, aB, aG, aJ)) :
    ∀ d i aL, i + d = n → tr_Rp 49 aL (tr_sh u y L i).1 → wX_shift_27 post (nI u) y (d + 1) (nI (tr_sh u y L i).2) (nI i) (nI n) fb fc fs fm aL aT aB aG aJ := by
  intro d
  induction d with
  | zero =>
    intro i aL hi hl
    obtain rfl : i = n := by omega
    exact br_t (nI_le (by omega) (by omega)) (K aL hl)
  | succ d ih =>
    intro i aL hi hl
    have nx := ih (i + 1)
    refine br_f (nI_ge (by omega) (by omega)) (pk_eq i u (fun e => nm_r (nI_1 i) ?_) (fun ne => ?_))
    · rw [tr_sh_e e] at nx
      exact nx aL (by omega) hl
    · rw [tr_sh_n ne] at nx
      refine tx_sf (by omega) (by omega) hl (tr_sh_b hL i) (fun e aL' h' => ?_) (fun e aL' h' => ?_)
      · dsimp only
        rw [if_pos e] at nx
        exact br_t rfl (nm_r (nI_1 i) (nx aL' (by omega) h'))
      · dsimp only
        rw [if_neg e] at nx
        exact br_f (by decide) (nm_r (nI_1 _) (nm_r (nI_1 i) (nx aL' (by omega) h')))
theorem ty_s85 {post : Int32 → SY → Prop} {J : Int32 → Int32 → Int32 → Int32 → (Nat → Int32) → (Nat → Int32) → (Nat → Int32) → (Nat → Int32) → Prop} {x2 fn fT : Int32} {aL aW aO aP : Nat → Int32} {L : Nat → Nat} {u i q l c : Nat} (hu : u < 7) (hi : i < 7) (hl : tr_Rp 49 aL L) (hc : c ≤ 60) (hb : l ≤ 60)
    (K : ∀ aL, tr_Rp 49 aL (tr_pt L u i c) → J (nI (q + (if c = l then 0 else 1))) (nI (i + 1)) fn fT aL aW aO aP) : wY_shift_85 post J (nI u) x2 (nI q) (nI i) (nI l) (nI c) fn fT aL aW aO aP := by
  refine pk_eq c l (fun e => ?_) (fun e => nm_r (nI_1 q) ?_)
  · rw [if_pos e] at K
    unfold wY_shift_97
    refine ty_sl hu hi hl (fun aL' h' => ?_)
    dsimp only
    exact nm_r (nI_1 i) (K aL' h')
  · rw [if_neg e] at K
    unfold wY_shift_97
    refine ty_sl hu hi hl (fun aL' h' => ?_)
    dsimp only
    exact nm_r (nI_1 i) (K aL' h')
theorem ty_sh_l {post : Int32 → SY → Prop} {fT y : Int32} {aW aO aP : Nat → Int32} {L : Nat → Nat} {n u : Nat} (h7 : n ≤ 7) (hu : u < n) (hL : ∀ j, j < 49 → L j ≤ 60)
    (K : ∀ aL, tr_Rp 49 aL (tr_sh u y L n).1 → post (nI (tr_sh u y L n).2) (nI n, fT, aL, aW, aO, aP)) :
    ∀ d i aL, i + d = n → tr_Rp 49 aL (tr_sh u y L i).1 → wY_shift_27 post (nI u) y (d + 1) (nI (tr_sh u y L i).2) (nI i) (nI n) fT aL aW aO aP := by
  intro d
  induction d with
  | zero =>
    intro i aL hi hl
    obtain rfl : i = n := by omega
    exact br_t (nI_le (by omega) (by omega)) (K aL hl)
  | succ d ih =>
    intro i aL hi hl
    have nx := ih (i + 1)
    refine br_f (nI_ge (by omega) (by omega)) (pk_eq i u (fun e => nm_r (nI_1 i) ?_) (fun ne => ?_))
    · rw [tr_sh_e e] at nx
      exact nx aL (by omega) hl
    · rw [tr_sh_n ne] at nx
      have b1 := tr_sh_b (u := u) (y := y) hL i (7 * u + i) (by omega)
      have c1 := tr_cv_le (nI ((tr_sh u y L i).1 (7 * u + i)) + y)
      have key := ty_s85 (post := post) (J := wY_shift_27 post (nI u) y (d + 1)) (x2 := y) (fn := nI n) (fT := fT) (aW := aW) (aO := aO) (aP := aP) (q := (tr_sh u y L i).2) (by omega) (by omega) hl c1 b1 (fun aL' h' => nx aL' (by omega) h')
      rw [tr_iy, nI_clamp (by omega), hl _ (by omega)]
      refine ⟨vp_in_nI (by omega) (by omega), nm_e ?_⟩
      by_cases h0 : 0 ≤ nI ((tr_sh u y L i).1 (7 * u + i)) + y
      · by_cases h1 : nI ((tr_sh u y L i).1 (7 * u + i)) + y ≤ 60
        · rw [← (tr_cv_in h0 h1).1] at key
          exact br_t h0 (br_t h1 key)
        · rw [tr_cv_hi h0 h1] at key
          exact br_t h0 (br_f h1 key)
      · rw [tr_cv_lo h0] at key
        exact br_f h0 key
def tr_rsh (n : Nat) (x y : Int32) : Prop := (x < 0 ∨ nI n ≤ x) ∨ y < -60 ∨ ¬ y ≤ 60
theorem tx_sh0 {post : Int32 → SX → Prop} {fb fc fs fm x y : Int32} {aL aT aB aG aJ : Nat → Int32} {n : Nat} (h7 : n ≤ 7) (h : tr_rsh n x y) (K : post (-1) (nI n, fb, fc, fs, fm, aL, aT, aB, aG, aJ)) : wpX_shift post (nI n, fb, fc, fs, fm, aL, aT, aB, aG, aJ) x y := by
  unfold wpX_shift
  dsimp only
  rcases tr_town x h7 with q | ⟨a, ha, rfl⟩
  · exact tx_it0 q (br_t rfl K)
  · refine tx_it1 h7 ha (br_f (by decide) ?_)
    by_cases w : y < -60
    · exact br_t w K
    · refine br_f w ?_
      rcases h with q | q | q
      · rcases q with q | q
        · exact absurd q (nI_pos (by omega))
        · exact absurd q (nI_ge ha (by omega))
      · exact absurd q w
      · exact br_f q K
theorem ty_sh0 {post : Int32 → SY → Prop} {fT x y : Int32} {aL aW aO aP : Nat → Int32} {n : Nat} (h7 : n ≤ 7) (h : tr_rsh n x y) (K : post (-1) (nI n, fT, aL, aW, aO, aP)) : wpY_shift post (nI n, fT, aL, aW, aO, aP) x y := by
  unfold wpY_shift
  dsimp only
  rcases tr_town x h7 with q | ⟨a, ha, rfl⟩
  · exact ty_it0 q (br_t rfl K)
  · refine ty_it1 h7 ha (br_f (by decide) ?_)
    by_cases w : y < -60
    · exact br_t w K
    · refine br_f w ?_
      rcases h with q | q | q
      · rcases q with q | q
        · exact absurd q (nI_pos (by omega))
        · exact absurd q (nI_ge ha (by omega))
      · exact absurd q w
      · exact br_f q K
theorem tx_sh1 {post : Int32 → SX → Prop} {fb fc fs fm y : Int32} {aL aT aB aG aJ : Nat → Int32} {L : Nat → Nat} {n u : Nat} (h7 : n ≤ 7) (hu : u < n) (hl : tr_Rp 49 aL L) (hL : ∀ j, j < 49 → L j ≤ 60) (h : ¬ tr_rsh n (nI u) y)
    (K : ∀ aL, tr_Rp 49 aL (tr_sh u y L n).1 → post (nI (tr_sh u y L n).2) (nI n, fb, fc, fs, fm, aL, aT, aB, aG, aJ)) : wpX_shift post (nI n, fb, fc, fs, fm, aL, aT, aB, aG, aJ) (nI u) y := by
  have h1 : ¬ y < -60 := fun q => h (Or.inr (Or.inl q))
  have h2 : y ≤ 60 := Classical.byContradiction (fun q => h (Or.inr (Or.inr q)))
  unfold wpX_shift
  dsimp only
  exact tx_it1 h7 hu (br_f (by decide) (br_f h1 (br_t h2 ⟨n + 1, tx_sh_l h7 hu hL K n 0 aL (by omega) hl⟩)))
theorem ty_sh1 {post : Int32 → SY → Prop} {fT y : Int32} {aL aW aO aP : Nat → Int32} {L : Nat → Nat} {n u : Nat} (h7 : n ≤ 7) (hu : u < n) (hl : tr_Rp 49 aL L) (hL : ∀ j, j < 49 → L j ≤ 60) (h : ¬ tr_rsh n (nI u) y)
    (K : ∀ aL, tr_Rp 49 aL (tr_sh u y L n).1 → post (nI (tr_sh u y L n).2) (nI n, fT, aL, aW, aO, aP)) : wpY_shift post (nI n, fT, aL, aW, aO, aP) (nI u) y := by
  have h1 : ¬ y < -60 := fun q => h (Or.inr (Or.inl q))
  have h2 : y ≤ 60 := Classical.byContradiction (fun q => h (Or.inr (Or.inr q)))
  unfold wpY_shift
  dsimp only
  exact ty_it1 h7 hu (br_f (by decide) (br_f h1 (br_t h2 ⟨n + 1, ty_sh_l h7 hu hL K n 0 aL (by omega) hl⟩)))
