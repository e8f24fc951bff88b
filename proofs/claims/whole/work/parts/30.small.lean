/-! both sides: towns, pairs, a length set -/
def tr_pair (n : Nat) (x y : Int32) : Prop := ∃ a b : Nat, a < n ∧ b < n ∧ a ≠ b ∧ x = nI a ∧ y = nI b
theorem tx_it0 {post : Int32 → Prop} {fn fb fc fs fm x : Int32} {aL aT aB aG aJ : Nat → Int32} (h : x < 0 ∨ fn ≤ x) (K : post 0) : wpX_isTown post (fn, fb, fc, fs, fm, aL, aT, aB, aG, aJ) x := by
  unfold wpX_isTown
  dsimp only
  by_cases z : x < 0
  · exact br_t z K
  · exact br_f z (br_t (h.resolve_left z) K)
theorem tx_it1 {post : Int32 → Prop} {fb fc fs fm : Int32} {aL aT aB aG aJ : Nat → Int32} {n a : Nat} (h7 : n ≤ 7) (h : a < n) (K : post 1) : wpX_isTown post (nI n, fb, fc, fs, fm, aL, aT, aB, aG, aJ) (nI a) := by
  unfold wpX_isTown
  dsimp only
  exact br_f (nI_pos (by omega)) (br_f (nI_ge h (by omega)) K)
theorem ty_it0 {post : Int32 → Prop} {fn fT x : Int32} {aL aW aO aP : Nat → Int32} (h : x < 0 ∨ fn ≤ x) (K : post 0) : wpY_isTown post (fn, fT, aL, aW, aO, aP) x := by
  unfold wpY_isTown
  dsimp only
  by_cases z : x < 0
  · exact br_t z K
  · exact br_f z (br_t (h.resolve_left z) K)
theorem ty_it1 {post : Int32 → Prop} {fT : Int32} {aL aW aO aP : Nat → Int32} {n a : Nat} (h7 : n ≤ 7) (h : a < n) (K : post 1) : wpY_isTown post (nI n, fT, aL, aW, aO, aP) (nI a) := by
  unfold wpY_isTown
  dsimp only
  exact br_f (nI_pos (by omega)) (br_f (nI_ge h (by omega)) K)
theorem tr_town (x : Int32) {n : Nat} (h7 : n ≤ 7) : (x < 0 ∨ nI n ≤ x) ∨ ∃ j : Nat, j < n ∧ x = nI j := by
  rcases pk_ix x (n := n) (by omega) with h | h | h
  · exact Or.inl (Or.inl h)
  · exact Or.inl (Or.inr h)
  · exact Or.inr h
theorem tx_ip0 {post : Int32 → Prop} {fb fc fs fm x y : Int32} {aL aT aB aG aJ : Nat → Int32} {n : Nat} (h7 : n ≤ 7) (h : ¬ tr_pair n x y) (K : post 0) : wpX_isPair post (nI n, fb, fc, fs, fm, aL, aT, aB, aG, aJ) x y := by
  unfold wpX_isPair
  dsimp only
  rcases tr_town x h7 with q | ⟨a, ha, rfl⟩
  · exact tx_it0 q (br_t rfl K)
  · refine tx_it1 h7 ha (br_f (by decide) ?_)
    rcases tr_town y h7 with q | ⟨b, hb, rfl⟩
    · exact tx_it0 q (br_t rfl K)
    · refine tx_it1 h7 hb (br_f (by decide) (pk_eq a b (fun _ => K) (fun ne => ?_)))
      exact absurd ⟨a, b, ha, hb, ne, rfl, rfl⟩ h
theorem tx_ip1 {post : Int32 → Prop} {fb fc fs fm : Int32} {aL aT aB aG aJ : Nat → Int32} {n a b : Nat} (h7 : n ≤ 7) (ha : a < n) (hb : b < n) (hab : a ≠ b) (K : post 1) : wpX_isPair post (nI n, fb, fc, fs, fm, aL, aT, aB, aG, aJ) (nI a) (nI b) := by
  unfold wpX_isPair
  dsimp only
  exact tx_it1 h7 ha (br_f (by decide) (tx_it1 h7 hb (br_f (by decide) (pk_eq a b (fun e => absurd e hab) (fun _ => K)))))
theorem ty_ip0 {post : Int32 → Prop} {fT x y : Int32} {aL aW aO aP : Nat → Int32} {n : Nat} (h7 : n ≤ 7) (h : ¬ tr_pair n x y) (K : post 0) : wpY_isCouple post (nI n, fT, aL, aW, aO, aP) x y := by
  unfold wpY_isCouple
  dsimp only
  rcases tr_town x h7 with q | ⟨a, ha, rfl⟩
  · exact ty_it0 q (br_t rfl K)
  · refine ty_it1 h7 ha (br_f (by decide) ?_)
    rcases tr_town y h7 with q | ⟨b, hb, rfl⟩
    · exact ty_it0 q (br_t rfl K)
    · refine ty_it1 h7 hb (br_f (by decide) (pk_eq a b (fun _ => K) (fun ne => ?_)))
      exact absurd ⟨a, b, ha, hb, ne, rfl, rfl⟩ h
theorem ty_ip1 {post : Int32 → Prop} {fT : Int32} {aL aW aO aP : Nat → Int32} {n a b : Nat} (h7 : n ≤ 7) (ha : a < n) (hb : b < n) (hab : a ≠ b) (K : post 1) : wpY_isCouple post (nI n, fT, aL, aW, aO, aP) (nI a) (nI b) := by
  unfold wpY_isCouple
  dsimp only
  exact ty_it1 h7 ha (br_f (by decide) (ty_it1 h7 hb (br_f (by decide) (pk_eq a b (fun e => absurd e hab) (fun _ => K)))))
theorem tx_sl {post : SX → Prop} {fn fb fc fs fm : Int32} {aL aT aB aG aJ : Nat → Int32} {L : Nat → Nat} {a b c : Nat} (ha : a < 7) (hb : b < 7) (hl : tr_Rp 49 aL L)
    (K : ∀ aL, tr_Rp 49 aL (tr_pt L a b c) → post (fn, fb, fc, fs, fm, aL, aT, aB, aG, aJ)) : wpX_setLength post (fn, fb, fc, fs, fm, aL, aT, aB, aG, aJ) (nI a) (nI b) (nI c) := by
  unfold wpX_setLength
  dsimp only
  rw [tr_ix, tr_ix, nI_clamp (n := 7 * a + b) (by omega), nI_clamp (n := 7 * b + a) (by omega)]
  exact ⟨vp_in_nI (by omega) (by omega), nm_e ⟨vp_in_nI (by omega) (by omega), nm_e (K _ (tr_Rp_pt hl))⟩⟩
theorem ty_sl {post : SY → Prop} {fn fT : Int32} {aL aW aO aP : Nat → Int32} {L : Nat → Nat} {a b c : Nat} (ha : a < 7) (hb : b < 7) (hl : tr_Rp 49 aL L)
    (K : ∀ aL, tr_Rp 49 aL (tr_pt L a b c) → post (fn, fT, aL, aW, aO, aP)) : wpY_put post (fn, fT, aL, aW, aO, aP) (nI a) (nI b) (nI c) := by
  unfold wpY_put
  dsimp only
  rw [tr_iy, tr_iy, nI_clamp (n := 7 * a + b) (by omega), nI_clamp (n := 7 * b + a) (by omega)]
  exact ⟨vp_in_nI (by omega) (by omega), nm_e ⟨vp_in_nI (by omega) (by omega), nm_e (K _ (tr_Rp_pt hl))⟩⟩
def tr_ref (n : Nat) (x y z : Int32) : Prop := ¬ tr_pair n x y ∨ z < 0 ∨ ¬ z ≤ 60
theorem tr_ref_n {n : Nat} {x y z : Int32} (h : ¬ tr_ref n x y z) : ∃ a b c : Nat, a < n ∧ b < n ∧ a ≠ b ∧ c ≤ 60 ∧ x = nI a ∧ y = nI b ∧ z = nI c := by
  have p : tr_pair n x y := Classical.byContradiction (fun q => h (Or.inl q))
  have z0 : ¬ z < 0 := fun q => h (Or.inr (Or.inl q))
  have z1 : z ≤ 60 := Classical.byContradiction (fun q => h (Or.inr (Or.inr q)))
  obtain ⟨a, b, ha, hb, hab, ex, ey⟩ := p
  obtain ⟨c, hc, ez⟩ := nI_of2 (M := 60) (n := 60) (by decide) z0 z1
  exact ⟨a, b, c, ha, hb, hab, hc, ex, ey, ez⟩
theorem tx_rd0 {post : Int32 → SX → Prop} {fb fc fs fm x y z : Int32} {aL aT aB aG aJ : Nat → Int32} {n : Nat} (h7 : n ≤ 7) (h : tr_ref n x y z) (K : post 0 (nI n, fb, fc, fs, fm, aL, aT, aB, aG, aJ)) : wpX_road post (nI n, fb, fc, fs, fm, aL, aT, aB, aG, aJ) x y z := by
  unfold wpX_road
  dsimp only
  by_cases p : tr_pair n x y
  · obtain ⟨a, b, ha, hb, hab, rfl, rfl⟩ := p
    refine tx_ip1 h7 ha hb hab (br_f (by decide) ?_)
    rcases h with q | q | q
    · exact absurd ⟨a, b, ha, hb, hab, rfl, rfl⟩ q
    · exact br_t q K
    · by_cases w : z < 0
      · exact br_t w K
      · exact br_f w (br_f q K)
  · exact tx_ip0 h7 p (br_t rfl K)
theorem ty_rd0 {post : Int32 → SY → Prop} {fT x y z : Int32} {aL aW aO aP : Nat → Int32} {n : Nat} (h7 : n ≤ 7) (h : tr_ref n x y z) (K : post 0 (nI n, fT, aL, aW, aO, aP)) : wpY_road post (nI n, fT, aL, aW, aO, aP) x y z := by
  unfold wpY_road
  dsimp only
  by_cases p : tr_pair n x y
  · obtain ⟨a, b, ha, hb, hab, rfl, rfl⟩ := p
    refine ty_ip1 h7 ha hb hab (br_f (by decide) ?_)
    rcases h with q | q | q
    · exact absurd ⟨a, b, ha, hb, hab, rfl, rfl⟩ q
    · exact br_t q K
    · by_cases w : z < 0
      · exact br_t w K
      · exact br_f w (br_f q K)
  · exact ty_ip0 h7 p (br_t rfl K)
theorem tx_rd1 {post : Int32 → SX → Prop} {fb fc fs fm : Int32} {aL aT aB aG aJ : Nat → Int32} {L : Nat → Nat} {n a b c : Nat} (h7 : n ≤ 7) (ha : a < n) (hb : b < n) (hab : a ≠ b) (hc : c ≤ 60) (hl : tr_Rp 49 aL L)
    (K : ∀ aL, tr_Rp 49 aL (tr_pt L a b c) → post 1 (nI n, fb, fc, fs, fm, aL, aT, aB, aG, aJ)) : wpX_road post (nI n, fb, fc, fs, fm, aL, aT, aB, aG, aJ) (nI a) (nI b) (nI c) := by
  unfold wpX_road
  dsimp only
  exact tx_ip1 h7 ha hb hab (br_f (by decide) (br_f (nI_pos (by omega)) (br_t (nI_le (b := 60) hc (by decide)) (tx_sl (by omega) (by omega) hl K))))
theorem ty_rd1 {post : Int32 → SY → Prop} {fT : Int32} {aL aW aO aP : Nat → Int32} {L : Nat → Nat} {n a b c : Nat} (h7 : n ≤ 7) (ha : a < n) (hb : b < n) (hab : a ≠ b) (hc : c ≤ 60) (hl : tr_Rp 49 aL L)
    (K : ∀ aL, tr_Rp 49 aL (tr_pt L a b c) → post 1 (nI n, fT, aL, aW, aO, aP)) : wpY_road post (nI n, fT, aL, aW, aO, aP) (nI a) (nI b) (nI c) := by
  unfold wpY_road
  dsimp only
  exact ty_ip1 h7 ha hb hab (br_f (by decide) (br_f (nI_pos (by omega)) (br_t (nI_le (b := 60) hc (by decide)) (ty_sl (by omega) (by omega) hl K))))
