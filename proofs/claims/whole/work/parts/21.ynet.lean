/-! Y: the parts for a length k, and what is made of them -/
theorem ty_ct_l {post : Int32 → SY → Prop} {fT : Int32} {aL aW aO aP : Nat → Int32} {p : Nat → Nat} {n : Nat} (h7 : n ≤ 7) (hP : tr_Rp n aP p) (hp : ∀ x, p x ≤ x)
    (K : post (nI (tr_cp (fun u => p u = u) n)) (nI n, fT, aL, aW, aO, aP)) :
    ∀ d i, i + d = n → wY_parts_135 post (nI n) fT aL aW aO aP (d + 1) (nI (tr_cp (fun u => p u = u) i)) (nI i) := by
  intro d
  induction d with
  | zero =>
    intro i hi
    obtain rfl : i = n := by omega
    exact br_t (nI_le (by omega) (by omega)) K
  | succ d ih =>
    intro i hi
    have b := hp i
    refine br_f (nI_ge (by omega) (by omega)) ⟨vp_in_nI (by omega) (by omega), ?_⟩
    rw [nI_clamp (by omega), hP i (by omega)]
    refine pk_eq (p i) i (fun h => nm_r ?_ (nm_r (nI_1 i) (ih (i + 1) (by omega)))) (fun h => nm_r (nI_1 i) ?_)
    · rw [tr_cp_t (P := fun u => p u = u) h, nI_1]
    · have z := ih (i + 1) (by omega)
      rw [tr_cp_f (P := fun u => p u = u) h] at z
      exact z
theorem ty_rd_l {post : Int32 → SY → Prop} {J : Int32 → (Nat → Int32) → (Nat → Int32) → (Nat → Int32) → (Nat → Int32) → Prop} {fT : Int32} {aL aW aO : Nat → Int32} {L p0 : Nat → Nat} {n k r : Nat} (h7 : n ≤ 7) (hl : tr_Rp 49 aL L) (hL : ∀ j, j < 49 → L j ≤ 60) (hk : k < 1000) (hp0 : ∀ x, p0 x ≤ x)
    (K : ∀ p aP, tr_Rd L n k p0 p 49 → tr_Rp n aP p → J (nI (r + 1)) aL aW aO aP) :
    ∀ d uv p aP, uv + d = 49 → tr_Rd L n k p0 p uv → tr_Rp n aP p → wY_parts_35 post J (nI k) (nI r) (nI n) fT (d + 1) (nI uv) aL aW aO aP := by
  intro d
  induction d with
  | zero =>
    intro uv p aP hi R hP
    obtain rfl : uv = 49 := by omega
    exact br_t (nI_le (a := 49) (by omega) (by omega)) (nm_r (nI_1 r) (K p aP R hP))
  | succ d ih =>
    intro uv p aP hi R hP
    obtain ⟨u, v, hv, e⟩ : ∃ u v, v < 7 ∧ uv = 7 * u + v := ⟨uv / 7, uv % 7, by omega, by omega⟩
    have hu : u < 7 := by omega
    have e1 : nI uv / 7 = nI u := by
      have z := pk_div (a := uv) (d := 7) (by omega) (by omega) (by omega)
      rw [show uv / 7 = u by omega] at z
      exact z
    have e2 : nI uv - nI uv / 7 * 7 = nI v := by
      have z := pk_rem (a := uv) (d := 7) (by omega) (by omega) (by omega)
      rw [show uv % 7 = v by omega] at z
      exact z
    have lb := hL uv (by omega)
    have keep : (tr_E L n k u v → p u ≤ p v) → wY_parts_35 post J (nI k) (nI r) (nI n) fT (d + 1) (nI (uv + 1)) aL aW aO aP := by
      intro q
      refine ih (uv + 1) p aP (by omega) ?_ hP
      rw [e] at R ⊢
      exact tr_Rd_k h7 hv R q
    refine br_f (nI_ge (b := 49) (by omega) (by omega)) ⟨by decide, nm_r e1 ⟨by decide, nm_r e2 ?_⟩⟩
    refine pk_le n u (fun h => nm_r (nI_1 uv) (keep (fun q => absurd q.1 (by omega)))) (fun h1 => ?_)
    refine pk_le n v (fun h => nm_r (nI_1 uv) (keep (fun q => absurd q.2.1 (by omega)))) (fun h2 => ?_)
    refine pk_eq u v (fun h => nm_r (nI_1 uv) (keep (fun q => absurd h q.2.2.1))) (fun h3 => ⟨vp_in_nI (by omega) (by omega), ?_⟩)
    rw [nI_clamp (n := uv) (by omega), hl uv (by omega)]
    refine pk_lt k (L uv) (fun h => nm_r (nI_1 uv) (keep (fun q => ?_))) (fun h4 => ?_)
    · have := q.2.2.2
      rw [← e] at this
      omega
    have vu : vp_in (nI u) 7 := vp_in_nI (by omega) (by omega)
    have vv : vp_in (nI v) 7 := vp_in_nI (by omega) (by omega)
    have pu := Nat.le_trans (R.2.1 u) (hp0 u)
    have pv := Nat.le_trans (R.2.1 v) (hp0 v)
    refine ⟨vv, vu, ?_⟩
    rw [nI_clamp (n := u) (by omega), nI_clamp (n := v) (by omega), hP u h1, hP v h2]
    refine pk_le (p u) (p v) (fun h => nm_r (nI_1 uv) (keep (fun _ => h))) (fun h5 => ⟨vv, vu, nm_e (nm_r (nI_1 uv) ?_)⟩)
    refine ih (uv + 1) (fun x => if x = u then p v else p x) _ (by omega) ?_ (tr_Rp_u hP (fun _ _ => rfl))
    rw [e] at R h4 ⊢
    exact tr_Rd_u h7 hv R ⟨h1, h2, h3, h4⟩ h5 (fun _ => rfl)
theorem ty_rn_l {post : Int32 → SY → Prop} {fT : Int32} {aL aW aO : Nat → Int32} {L : Nat → Nat} {n k : Nat} (h7 : n ≤ 7) (sy : tr_Sy L) (hl : tr_Rp 49 aL L) (hL : ∀ j, j < 49 → L j ≤ 60) (hk : k < 1000)
    (K : ∀ aP, post (nI (tr_P L n k)) (nI n, fT, aL, aW, aO, aP)) :
    ∀ d r p aP, r + d = n → tr_Iv (tr_E L n k) n r p → tr_Rp n aP p → wY_parts_25 post (nI k) (nI n) fT (d + 1) (nI r) aL aW aO aP := by
  intro d
  induction d with
  | zero =>
    intro r p aP hi I hP
    obtain rfl : r = n := by omega
    refine br_t (nI_le (by omega) (by omega)) ⟨r + 1, ty_ct_l h7 hP I.1 ?_ r 0 (by omega)⟩
    have e := tr_Iv_n (tr_E_y sy h7 k) I
    rw [tr_cp_congr (Q := fun u => tr_lb (tr_E L r k) u = u) r (fun m hm => by rw [e m hm])]
    exact K aP
  | succ d ih =>
    intro r p aP hi I hP
    refine br_f (nI_ge (by omega) (by omega)) ⟨49 + 1, ty_rd_l h7 hl hL hk I.1 (fun p' aP' R hP' => ?_) 49 0 p aP (by omega) (tr_Rd_0 I.2.1) hP⟩
    exact ih (r + 1) p' aP' (by omega) (tr_Rd_e h7 sy I R) hP'
theorem ty_p0_l {post : Int32 → SY → Prop} {fT : Int32} {aL aW aO : Nat → Int32} {L : Nat → Nat} {n k : Nat} (h7 : n ≤ 7) (sy : tr_Sy L) (hl : tr_Rp 49 aL L) (hL : ∀ j, j < 49 → L j ≤ 60) (hk : k < 1000)
    (K : ∀ aP, post (nI (tr_P L n k)) (nI n, fT, aL, aW, aO, aP)) :
    ∀ d i aP, i + d = n → tr_Rp i aP (fun x => x) → wY_parts_2 post (nI k) (nI n) fT (d + 1) (nI i) aL aW aO aP := by
  intro d
  induction d with
  | zero =>
    intro i aP hi hP
    obtain rfl : i = n := by omega
    exact br_t (nI_le (by omega) (by omega)) ⟨i + 1, ty_rn_l h7 sy hl hL hk K i 0 (fun x => x) aP (by omega) (tr_Iv_0 _ i) hP⟩
  | succ d ih =>
    intro i aP hi hP
    exact br_f (nI_ge (by omega) (by omega)) ⟨vp_in_nI (by omega) (by omega), nm_r (e' := upd aP i (nI i)) (by rw [nI_clamp (by omega)]) (nm_r (nI_1 i) (ih (i + 1) _ (by omega) (tr_Rp_x (f := fun x => x) hP)))⟩
theorem ty_pt {post : Int32 → SY → Prop} {fT : Int32} {aL aW aO aP : Nat → Int32} {L : Nat → Nat} {n k : Nat} (h7 : n ≤ 7) (sy : tr_Sy L) (hl : tr_Rp 49 aL L) (hL : ∀ j, j < 49 → L j ≤ 60) (hk : k < 1000)
    (K : ∀ aP, post (nI (tr_P L n k)) (nI n, fT, aL, aW, aO, aP)) : wpY_parts post (nI n, fT, aL, aW, aO, aP) (nI k) := by
  unfold wpY_parts
  dsimp only
  exact ⟨n + 1, ty_p0_l h7 sy hl hL hk K n 0 aP (by omega) (fun j hj => absurd hj (Nat.not_lt_zero _))⟩
theorem ty_re_l {post : Int32 → SY → Prop} {fT : Int32} {aL aW aO : Nat → Int32} {L : Nat → Nat} {n m : Nat} (h7 : n ≤ 7) (sy : tr_Sy L) (hl : tr_Rp 49 aL L) (hL : ∀ j, j < 49 → L j ≤ 60)
    (h1 : ∀ k, tr_P L n k = 1 ↔ m ≤ k) (h2 : m ≤ 60) (K : ∀ aP, post (nI m) (nI n, fT, aL, aW, aO, aP)) :
    ∀ d i aP, i + d = 60 → i ≤ m → wY_reach_2 post (d + 1) (nI i) (nI n) fT aL aW aO aP := by
  intro d
  induction d with
  | zero =>
    intro i aP hi hm
    obtain rfl : m = 60 := by omega
    exact br_t (nI_le (a := 60) (by omega) (by omega)) (K aP)
  | succ d ih =>
    intro i aP hi hm
    have pl := tr_P_le L n i
    refine br_f (nI_ge (b := 60) (by omega) (by omega)) (ty_pt h7 sy hl hL (by omega) (fun aP' => ?_))
    dsimp only
    refine pk_eq (tr_P L n i) 1 (fun e => ?_) (fun e => nm_r (nI_1 i) (ih (i + 1) aP' (by omega) ?_))
    · obtain rfl : m = i := by have := (h1 i).mp e; omega
      exact K aP'
    · have : ¬ m ≤ i := fun q => e ((h1 i).mpr q)
      omega
theorem ty_re {post : Int32 → SY → Prop} {fT : Int32} {aL aW aO aP : Nat → Int32} {L : Nat → Nat} {n m : Nat} (h7 : n ≤ 7) (sy : tr_Sy L) (hl : tr_Rp 49 aL L) (hL : ∀ j, j < 49 → L j ≤ 60)
    (h1 : ∀ k, tr_P L n k = 1 ↔ m ≤ k) (h2 : m ≤ 60) (K : ∀ aP, post (nI m) (nI n, fT, aL, aW, aO, aP)) : wpY_reach post (nI n, fT, aL, aW, aO, aP) := by
  unfold wpY_reach
  dsimp only
  exact ⟨60 + 1, ty_re_l h7 sy hl hL h1 h2 K 60 0 aP (by omega) (by omega)⟩
theorem ty_nt_l {post : Int32 → SY → Prop} {fT : Int32} {aL aW aO : Nat → Int32} {L : Nat → Nat} {n : Nat} (h3 : 3 ≤ n) (h7 : n ≤ 7) (sy : tr_Sy L) (hl : tr_Rp 49 aL L) (hL : ∀ j, j < 49 → L j ≤ 60)
    (K : ∀ aP, post (nI (tr_sm (fun k => tr_P L n k - 1) 60)) (nI n, fT, aL, aW, aO, aP)) :
    ∀ d i aP, i + d = 60 → wY_net_4 post (d + 1) (nI (tr_sm (fun k => tr_P L n k - 1) i)) (nI i) (nI n) fT aL aW aO aP := by
  intro d
  induction d with
  | zero =>
    intro i aP hi
    obtain rfl : i = 60 := by omega
    exact br_t (nI_le (a := 60) (by omega) (by omega)) (K aP)
  | succ d ih =>
    intro i aP hi
    have pl := tr_P_pos (L := L) (n := n) (k := i) (by omega)
    refine br_f (nI_ge (b := 60) (by omega) (by omega)) (ty_pt h7 sy hl hL (by omega) (fun aP' => ?_))
    dsimp only
    refine nm_r ?_ (nm_r (nI_1 i) (ih (i + 1) aP' (by omega)))
    rw [show nI (tr_P L n i) - 1 = nI (tr_P L n i - 1) from pk_sub (b := 1) pl, nI_add]
    rfl
theorem ty_nt {post : Int32 → SY → Prop} {fT : Int32} {aL aW aO aP : Nat → Int32} {L : Nat → Nat} {n : Nat} (h3 : 3 ≤ n) (h7 : n ≤ 7) (sy : tr_Sy L) (hl : tr_Rp 49 aL L) (hL : ∀ j, j < 49 → L j ≤ 60)
    (K : ∀ aP, post (nI (tr_sm (fun k => tr_P L n k - 1) 60)) (nI n, fT, aL, aW, aO, aP)) : wpY_net post (nI n, fT, aL, aW, aO, aP) := by
  unfold wpY_net
  dsimp only
  exact ⟨60 + 1, ty_nt_l h3 h7 sy hl hL K 60 0 aP (by omega)⟩
