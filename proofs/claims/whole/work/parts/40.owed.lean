/-! the relation, and what is owed -/
def tr_St (n : Nat) (L : Nat → Nat) (aL aL' aW : Nat → Int32) : Prop :=
  3 ≤ n ∧ n ≤ 7 ∧ tr_Sy L ∧ (∀ j, j < 49 → L j ≤ 60) ∧ tr_Rp 49 aL L ∧ tr_Rp 49 aL' L ∧ tr_Tw n aW
/-- the same towns, the same lengths, and the reference's table of trips -/
def i_Rel (k : Nat) (u : SX) (v : SY) : Prop := ∃ (n : Nat) (L : Nat → Nat) (fb fc fs fm : Int32) (aL aT aB aG aJ aL' aW aO aP : Nat → Int32),
  u = (nI n, fb, fc, fs, fm, aL, aT, aB, aG, aJ) ∧ v = (nI n, nI (tr_T n), aL', aW, aO, aP) ∧ tr_St n L aL aL' aW
theorem tr_rel {k n : Nat} {L : Nat → Nat} {fb fc fs fm : Int32} {aL aT aB aG aJ aL' aW aO aP : Nat → Int32} (h : tr_St n L aL aL' aW) : i_Rel k (nI n, fb, fc, fs, fm, aL, aT, aB, aG, aJ) (nI n, nI (tr_T n), aL', aW, aO, aP) :=
  ⟨n, L, fb, fc, fs, fm, aL, aT, aB, aG, aJ, aL', aW, aO, aP, rfl, rfl, h⟩
theorem i_up {k : Nat} {u : SX} {v : SY} (h : i_Rel k u v) : i_Rel (k + 4) u v := h
theorem tr_v0 {n : Nat} (h3 : 3 ≤ n) (h7 : n ≤ 7) : ∃ N, wX_init_57 (fun u => ∃ M, wY_init_70 (fun v => i_Rel 1 u v) (nI n) 1 M 0 (fun _ => 0) (fun _ => 0) (fun _ => 0) (fun _ => 0)) (nI n) 0 0 0 0 N 0 (fun _ => 0) (fun _ => 0) (fun _ => 0) (fun _ => 0) (fun _ => 0) := by
  refine ⟨49 + 1, tx_i0_l (fun aL hl => ⟨49 + 1, ty_i0_l h3 h7 rfl (fun aL' aW aO hl' hW => ?_) 49 0 _ (by omega) (fun j hj => absurd hj (Nat.not_lt_zero _))⟩) 49 0 _ (by omega) (fun j hj => absurd hj (Nat.not_lt_zero _))⟩
  exact tr_rel (L := fun _ => 60) ⟨h3, h7, fun _ _ _ _ => rfl, fun _ _ => Nat.le_refl _, hl, hl', hW⟩
theorem i_vc0 (k0 : Int32) : wpX_init (fun u => wpY_init (fun v => i_Rel 1 u v) k0) k0 := by
  unfold wpX_init wpX_clamp
  by_cases h3 : 3 ≤ k0
  · by_cases h7 : k0 ≤ 7
    · obtain ⟨n, hn, rfl⟩ := nI_of2 (M := 7) (n := 7) (x := k0) (by decide) (Int32.not_lt.mpr (Int32.le_trans (by decide : (0 : Int32) ≤ 3) h3)) h7
      have n3 : 3 ≤ n := (nI_leI (a := 3) (by omega) (by omega)).mp h3
      obtain ⟨N, z⟩ := tr_v0 n3 hn
      refine br_t h3 (br_t h7 ⟨N, ?_⟩)
      have e : (fun u => wpY_init (fun v => i_Rel 1 u v) (nI n)) = (fun u => ∃ M, wY_init_70 (fun v => i_Rel 1 u v) (nI n) 1 M 0 (fun _ => 0) (fun _ => 0) (fun _ => 0) (fun _ => 0)) := by
        funext u
        unfold wpY_init
        exact propext ⟨fun q => (q.1 h3).1 h7, fun q => br_t h3 (br_t h7 q)⟩
      rw [e]
      exact z
    · obtain ⟨N, z⟩ := tr_v0 (n := 7) (by decide) (by decide)
      refine br_t h3 (br_f h7 ⟨N, ?_⟩)
      have e : (fun u => wpY_init (fun v => i_Rel 1 u v) k0) = (fun u => ∃ M, wY_init_70 (fun v => i_Rel 1 u v) (nI 7) 1 M 0 (fun _ => 0) (fun _ => 0) (fun _ => 0) (fun _ => 0)) := by
        funext u
        unfold wpY_init
        exact propext ⟨fun q => (q.1 h3).2 h7, fun q => br_t h3 (br_f h7 q)⟩
      rw [e]
      exact z
  · obtain ⟨N, z⟩ := tr_v0 (n := 3) (by decide) (by decide)
    refine br_f h3 ⟨N, ?_⟩
    have e : (fun u => wpY_init (fun v => i_Rel 1 u v) k0) = (fun u => ∃ M, wY_init_70 (fun v => i_Rel 1 u v) (nI 3) 1 M 0 (fun _ => 0) (fun _ => 0) (fun _ => 0) (fun _ => 0)) := by
      funext u
      unfold wpY_init
      exact propext ⟨fun q => q.2 h3, fun q => br_f h3 q⟩
    rw [e]
    exact z
theorem i_vc_road {k : Nat} {u : SX} {v : SY} (I : i_Rel k u v) (hk : k + 4 ≤ 2049) (v1 : Int32) (v2 : Int32) (v3 : Int32) : wpX_road (fun r u' => wpY_road (fun r' v' => r' = r ∧ i_Rel (k + 4) u' v') v v1 v2 v3) u v1 v2 v3 := by
  obtain ⟨n, L, fb, fc, fs, fm, aL, aT, aB, aG, aJ, aL', aW, aO, aP, rfl, rfl, h⟩ := I
  have h' := h
  obtain ⟨h3, h7, sy, hL, hl, hl', hW⟩ := h'
  by_cases q : tr_ref n v1 v2 v3
  · exact tx_rd0 h7 q (ty_rd0 h7 q ⟨rfl, tr_rel h⟩)
  · obtain ⟨a, b, c, ha, hb, hab, hc, rfl, rfl, rfl⟩ := tr_ref_n q
    exact tx_rd1 h7 ha hb hab hc hl (fun bL e => ty_rd1 h7 ha hb hab hc hl' (fun bL' e' => ⟨rfl, tr_rel ⟨h3, h7, tr_pt_y sy (by omega) (by omega), tr_pt_b hL hc, e, e', hW⟩⟩))
theorem tr_any {n : Nat} (h3 : 3 ≤ n) (h7 : n ≤ 7) : ∃ t, t < tr_T n ∧ tr_Q n 0 0 0 t := ⟨0, (tr_T_b h3 h7).1, Or.inl rfl⟩
/-- X's best of all trips is Y's -/
theorem tr_same {L : Nat → Nat} {n b c f : Nat} {F : Nat → Prop} (h3 : 3 ≤ n) (h7 : n ≤ 7) (B : tr_BX (tr_ln L n) (tr_Q n 0 0 0) (tr_T n) b c F) (hf : f < tr_T n) (h1 : ∀ t, t < tr_T n → tr_ln L n f ≤ tr_ln L n t) (h2 : ∀ t, t < f → tr_ln L n f < tr_ln L n t) :
    tr_ln L n f = b ∧ F f ∧ tr_cp (fun t => tr_ln L n t = tr_ln L n f) (tr_T n) = c := by
  obtain ⟨i1, i2, i3, g, hg, qg, eg, fg, Fg⟩ := tr_BX_x B (tr_any h3 h7)
  have a1 := i1 f hf (Or.inl rfl)
  have a2 := h1 g hg
  have e : tr_ln L n f = b := by omega
  have fge : f = g := by
    apply Classical.byContradiction
    intro ne
    by_cases lt : f < g
    · have := fg f lt (Or.inl rfl)
      omega
    · have := h2 g (by omega)
      omega
  refine ⟨e, by rw [fge]; exact Fg, ?_⟩
  rw [i2, e]
  exact tr_cp_congr _ (fun t _ => ⟨fun q => ⟨Or.inl rfl, q⟩, fun q => q.2⟩)
theorem i_vc_shortest {k : Nat} {u : SX} {v : SY} (I : i_Rel k u v) (hk : k + 4 ≤ 2049) : wpX_shortest (fun r u' => wpY_shortest (fun r' => r' = r ∧ i_Rel (k + 4) u' v) v) u := by
  obtain ⟨n, L, fb, fc, fs, fm, aL, aT, aB, aG, aJ, aL', aW, aO, aP, rfl, rfl, h⟩ := I
  have h' := h
  obtain ⟨h3, h7, sy, hL, hl, hl', hW⟩ := h'
  unfold wpX_shortest
  dsimp only
  refine tx_find (kd := 0) (u := 0) (v := 0) h3 h7 hl hL (by decide) (by decide) (by decide) (fun b c aT' aB' hb B => ?_)
  dsimp only
  exact ty_sh h3 h7 hl' hL hW (fun f hf h1 h2 => ⟨by rw [(tr_same h3 h7 B hf h1 h2).1], tr_rel h⟩)
theorem i_vc_town {k : Nat} {u : SX} {v : SY} (I : i_Rel k u v) (hk : k + 4 ≤ 2049) (v1 : Int32) : wpX_town (fun r u' => wpY_town (fun r' => r' = r ∧ i_Rel (k + 4) u' v) v v1) u v1 := by
  obtain ⟨n, L, fb, fc, fs, fm, aL, aT, aB, aG, aJ, aL', aW, aO, aP, rfl, rfl, h⟩ := I
  have h' := h
  obtain ⟨h3, h7, sy, hL, hl, hl', hW⟩ := h'
  unfold wpX_town
  dsimp only
  rcases tr_town v1 h7 with q | ⟨a, ha, rfl⟩
  · refine tx_it0 q (br_t rfl ?_)
    unfold wpY_town
    dsimp only
    exact ty_it0 q (br_t rfl ⟨rfl, tr_rel h⟩)
  · refine tx_it1 h7 ha (br_f (by decide) (tx_find (kd := 0) (u := 0) (v := 0) h3 h7 hl hL (by decide) (by decide) (by decide) (fun b c aT' aB' hb B => ?_)))
    dsimp only
    refine ⟨vp_in_nI (by omega) (by omega), ?_⟩
    unfold wpY_town
    dsimp only
    refine ty_it1 h7 ha (br_f (by decide) (ty_bs h3 h7 hl' hL hW (fun f hf h1 h2 => ty_pk h3 h7 hW hf ha ⟨?_, tr_rel h⟩)))
    rw [nI_clamp (by omega), (tr_same h3 h7 B hf h1 h2).2.1 a ha]
theorem i_vc_trips {k : Nat} {u : SX} {v : SY} (I : i_Rel k u v) (hk : k + 4 ≤ 2049) : wpX_trips (fun r u' => wpY_trips (fun r' => r' = r ∧ i_Rel (k + 4) u' v) v) u := by
  obtain ⟨n, L, fb, fc, fs, fm, aL, aT, aB, aG, aJ, aL', aW, aO, aP, rfl, rfl, h⟩ := I
  have h' := h
  obtain ⟨h3, h7, sy, hL, hl, hl', hW⟩ := h'
  unfold wpX_trips
  dsimp only
  refine tx_find (kd := 0) (u := 0) (v := 0) h3 h7 hl hL (by decide) (by decide) (by decide) (fun b c aT' aB' hb B => ?_)
  dsimp only
  exact ty_tr h3 h7 hl' hL hW (fun f hf h1 h2 => ⟨by rw [(tr_same h3 h7 B hf h1 h2).2.2], tr_rel h⟩)
/-- X's best of a kind is Y's least of that kind -/
theorem tr_least {ln : Nat → Nat} {Q : Nat → Prop} {T b c : Nat} {F : Nat → Prop} {x : Int32} (B : tr_BX ln Q T b c F) (Y : tr_YL ln Q T x) (h : ∃ t, t < T ∧ Q t) : x = nI b := by
  obtain ⟨i1, i2, i3, g, hg, qg, eg, fg, Fg⟩ := tr_BX_x B h
  rcases Y with ⟨e, q⟩ | ⟨b', e, hb, ⟨t, ht, q1, q2⟩, q⟩
  · exact absurd qg (q g hg)
  · have a1 := i1 t ht q1
    have a2 := q g hg qg
    rw [e, show b' = b by omega]
theorem tr_Q1 {n u v : Nat} : ∀ t, tr_Q n 1 u v t ↔ tr_us (tr_R n t) n u v := by
  intro t
  refine ⟨fun q => ?_, fun q => Or.inr (Or.inl ⟨rfl, q⟩)⟩
  rcases q with q | q | q
  · omega
  · exact q.2
  · omega
theorem tr_Q2 {n u v : Nat} : ∀ t, tr_Q n 2 u v t ↔ ¬ tr_us (tr_R n t) n u v := by
  intro t
  refine ⟨fun q => ?_, fun q => Or.inr (Or.inr ⟨rfl, q⟩)⟩
  rcases q with q | q | q
  · omega
  · omega
  · exact q.2
theorem i_vc_using {k : Nat} {u : SX} {v : SY} (I : i_Rel k u v) (hk : k + 4 ≤ 2049) (v1 : Int32) (v2 : Int32) : wpX_using (fun r u' => wpY_using (fun r' => r' = r ∧ i_Rel (k + 4) u' v) v v1 v2) u v1 v2 := by
  obtain ⟨n, L, fb, fc, fs, fm, aL, aT, aB, aG, aJ, aL', aW, aO, aP, rfl, rfl, h⟩ := I
  have h' := h
  obtain ⟨h3, h7, sy, hL, hl, hl', hW⟩ := h'
  unfold wpX_using
  dsimp only
  by_cases p : tr_pair n v1 v2
  · obtain ⟨a, b, ha, hb, hab, rfl, rfl⟩ := p
    have ex := (tr_R_u h3 h7 ha hb hab).1
    refine tx_ip1 h7 ha hb hab (br_f (by decide) (tx_find (kd := 1) h3 h7 hl hL (by decide) (by omega) (by omega) (fun bl c aT' aB' _ B => ?_)))
    dsimp only
    unfold wpY_using
    dsimp only
    refine ty_ip1 h7 ha hb hab (br_f (by decide) (ty_lt (w := 1) (Q := tr_Q n 1 a b) h3 h7 hl' hL hW (by omega) (by omega) (by decide) (fun _ => tr_Q1) (fun z => by omega) (fun x Y => ⟨?_, tr_rel h⟩)))
    exact tr_least B Y (ex.elim (fun t ht => ⟨t, ht.1, (tr_Q1 t).mpr ht.2⟩))
  · refine tx_ip0 h7 p (br_t rfl ?_)
    unfold wpY_using
    dsimp only
    exact ty_ip0 h7 p (br_t rfl ⟨rfl, tr_rel h⟩)
theorem i_vc_avoiding {k : Nat} {u : SX} {v : SY} (I : i_Rel k u v) (hk : k + 4 ≤ 2049) (v1 : Int32) (v2 : Int32) : wpX_avoiding (fun r u' => wpY_avoiding (fun r' => r' = r ∧ i_Rel (k + 4) u' v) v v1 v2) u v1 v2 := by
  obtain ⟨n, L, fb, fc, fs, fm, aL, aT, aB, aG, aJ, aL', aW, aO, aP, rfl, rfl, h⟩ := I
  have h' := h
  obtain ⟨h3, h7, sy, hL, hl, hl', hW⟩ := h'
  unfold wpX_avoiding
  dsimp only
  by_cases p : tr_pair n v1 v2
  · obtain ⟨a, b, ha, hb, hab, rfl, rfl⟩ := p
    refine tx_ip1 h7 ha hb hab (br_f (by decide) (pk_eq n 3 (fun e => ?_) (fun ne => ?_)))
    · unfold wpY_avoiding
      dsimp only
      exact ty_ip1 h7 ha hb hab (br_f (by decide) (br_t (nI_le (b := 3) (by omega) (by decide)) ⟨rfl, tr_rel h⟩))
    · have ex := (tr_R_u h3 h7 ha hb hab).2 ne
      refine tx_find (kd := 2) h3 h7 hl hL (by decide) (by omega) (by omega) (fun bl c aT' aB' _ B => ?_)
      dsimp only
      unfold wpY_avoiding
      dsimp only
      refine ty_ip1 h7 ha hb hab (br_f (by decide) (br_f (nI_ge (a := 3) (by omega) (by omega)) (ty_lt (w := 0) (Q := tr_Q n 2 a b) h3 h7 hl' hL hW (by omega) (by omega) (by decide) (fun z => by omega) (fun _ => tr_Q2) (fun x Y => ⟨?_, tr_rel h⟩))))
      exact tr_least B Y (ex.elim (fun t ht => ⟨t, ht.1, (tr_Q2 t).mpr ht.2⟩))
  · refine tx_ip0 h7 p (br_t rfl ?_)
    unfold wpY_avoiding
    dsimp only
    exact ty_ip0 h7 p (br_t rfl ⟨rfl, tr_rel h⟩)
theorem i_vc_walk {k : Nat} {u : SX} {v : SY} (I : i_Rel k u v) (hk : k + 4 ≤ 2049) (v1 : Int32) (v2 : Int32) : wpX_walk (fun r u' => wpY_walk (fun r' => r' = r ∧ i_Rel (k + 4) u' v) v v1 v2) u v1 v2 := by
  obtain ⟨n, L, fb, fc, fs, fm, aL, aT, aB, aG, aJ, aL', aW, aO, aP, rfl, rfl, h⟩ := I
  have h' := h
  obtain ⟨h3, h7, sy, hL, hl, hl', hW⟩ := h'
  unfold wpX_walk
  dsimp only
  by_cases p : tr_pair n v1 v2
  · obtain ⟨a, b, ha, hb, hab, rfl, rfl⟩ := p
    have ex := (tr_R_u h3 h7 ha hb hab).1
    refine tx_ip1 h7 ha hb hab (br_f (by decide) (tx_find (kd := 1) h3 h7 hl hL (by decide) (by omega) (by omega) (fun bl c aT' aB' _ B => ?_)))
    dsimp only
    refine tx_lb hl (by omega) ?_
    unfold wpY_walk
    dsimp only
    refine ty_ip1 h7 ha hb hab (br_f (by decide) (ty_lt (w := 1) (Q := tr_Q n 1 a b) h3 h7 hl' hL hW (by omega) (by omega) (by decide) (fun _ => tr_Q1) (fun z => by omega) (fun x Y => ?_)))
    rw [tr_iy, nI_clamp (by omega), hl' _ (by omega), tr_least B Y (ex.elim (fun t ht => ⟨t, ht.1, (tr_Q1 t).mpr ht.2⟩))]
    exact ⟨vp_in_nI (by omega) (by omega), rfl, tr_rel h⟩
  · refine tx_ip0 h7 p (br_t rfl ?_)
    unfold wpY_walk
    dsimp only
    exact ty_ip0 h7 p (br_t rfl ⟨rfl, tr_rel h⟩)
theorem i_vc_reach {k : Nat} {u : SX} {v : SY} (I : i_Rel k u v) (hk : k + 4 ≤ 2049) : wpX_reach (fun r u' => wpY_reach (fun r' v' => r' = r ∧ i_Rel (k + 4) u' v') v) u := by
  obtain ⟨n, L, fb, fc, fs, fm, aL, aT, aB, aG, aJ, aL', aW, aO, aP, rfl, rfl, h⟩ := I
  have h' := h
  obtain ⟨h3, h7, sy, hL, hl, hl', hW⟩ := h'
  unfold wpX_reach
  dsimp only
  refine tx_grow h3 h7 sy hl hL (fun s m aG' aJ' e1 e2 e3 => ?_)
  dsimp only
  exact ty_re h7 sy hl' hL e2 e3 (fun aP' => ⟨rfl, tr_rel h⟩)
theorem i_vc_net {k : Nat} {u : SX} {v : SY} (I : i_Rel k u v) (hk : k + 4 ≤ 2049) : wpX_net (fun r u' => wpY_net (fun r' v' => r' = r ∧ i_Rel (k + 4) u' v') v) u := by
  obtain ⟨n, L, fb, fc, fs, fm, aL, aT, aB, aG, aJ, aL', aW, aO, aP, rfl, rfl, h⟩ := I
  have h' := h
  obtain ⟨h3, h7, sy, hL, hl, hl', hW⟩ := h'
  unfold wpX_net
  dsimp only
  refine tx_grow h3 h7 sy hl hL (fun s m aG' aJ' e1 e2 e3 => ?_)
  dsimp only
  exact ty_nt h3 h7 sy hl' hL (fun aP' => ⟨by rw [e1], tr_rel h⟩)
theorem i_vc_shift {k : Nat} {u : SX} {v : SY} (I : i_Rel k u v) (hk : k + 4 ≤ 2049) (v1 : Int32) (v2 : Int32) : wpX_shift (fun r u' => wpY_shift (fun r' v' => r' = r ∧ i_Rel (k + 4) u' v') v v1 v2) u v1 v2 := by
  obtain ⟨n, L, fb, fc, fs, fm, aL, aT, aB, aG, aJ, aL', aW, aO, aP, rfl, rfl, h⟩ := I
  have h' := h
  obtain ⟨h3, h7, sy, hL, hl, hl', hW⟩ := h'
  by_cases q : tr_rsh n v1 v2
  · exact tx_sh0 h7 q (ty_sh0 h7 q ⟨rfl, tr_rel h⟩)
  · rcases tr_town v1 h7 with z | ⟨a, ha, rfl⟩
    · exact absurd (Or.inl z) q
    · exact tx_sh1 h7 ha hl hL q (fun bL e => ty_sh1 h7 ha hl' hL q (fun bL' e' => ⟨rfl, tr_rel ⟨h3, h7, tr_sh_y (by omega) sy n h7, tr_sh_b hL n, e, e', hW⟩⟩))
