/-! X: the net -/
theorem tr_vb0 : vp_nar .boolean 0 = 0 := by decide
theorem tr_vb1 : vp_nar .boolean 1 = 1 := by decide
def tr_Jn (n : Nat) (a : Nat → Int32) (J : Nat → Prop) : Prop := ∀ t, t < n → (J t → a t = 1) ∧ (¬ J t → a t = 0)
theorem tx_jn_l {post : SX → Prop} {fb fc fs fm : Int32} {aL aT aB aJ : Nat → Int32} {L g : Nat → Nat} {J : Nat → Prop} {n u : Nat} (h7 : n ≤ 7) (hl : tr_Rp 49 aL L) (hL : ∀ j, j < 49 → L j ≤ 60) (hu : u < n) (hJ : tr_Jn n aJ J)
    (K : ∀ aG g', tr_Rp n aG g' → (∀ t, t < n → g' t ≤ 1000) → (∀ t, t < n → ¬ J t → g' t = if L (7 * u + t) < g t then L (7 * u + t) else g t) → post (nI n, fb, fc, fs, fm, aL, aT, aB, aG, aJ)) :
    ∀ d i aG g', i + d = n → tr_Rp n aG g' → (∀ t, t < n → g' t ≤ 1000) → (∀ t, t < n → ¬ J t → g' t = if t < i ∧ L (7 * u + t) < g t then L (7 * u + t) else g t) →
      wX_join_9 post (nI u) (nI n) fb fc fs fm (d + 1) (nI i) aL aT aB aG aJ := by
  intro d
  induction d with
  | zero =>
    intro i aG g' hi hG hb hg
    obtain rfl : i = n := by omega
    refine br_t (nI_le (by omega) (by omega)) (K aG g' hG hb (fun t ht hj => ?_))
    rw [hg t ht hj]
    by_cases z : L (7 * u + t) < g t
    · rw [if_pos z, if_pos ⟨ht, z⟩]
    · rw [if_neg z, if_neg (fun q => z q.2)]
  | succ d ih =>
    intro i aG g' hi hG hb hg
    have hc : 7 * u + i < 49 := by omega
    have lb := hL _ hc
    have vi : vp_in (nI i) 7 := vp_in_nI (by omega) (by omega)
    have gb := hb i (by omega)
    refine br_f (nI_ge (by omega) (by omega)) (tx_lb hl hc ⟨vi, ?_⟩)
    rw [nI_clamp (by omega)]
    by_cases z : J i
    · rw [(hJ i (by omega)).1 z]
      refine br_f (by decide) (nm_r (nI_1 i) (ih (i + 1) aG g' (by omega) hG hb (fun t ht hj => ?_)))
      rw [hg t ht hj]
      have ne : t ≠ i := fun q => hj (q ▸ z)
      by_cases w : t < i ∧ L (7 * u + t) < g t
      · rw [if_pos w, if_pos ⟨by omega, w.2⟩]
      · rw [if_neg w, if_neg (fun q => w ⟨by omega, q.2⟩)]
    · rw [(hJ i (by omega)).2 z]
      have gi : g' i = g i := by rw [hg i (by omega) z, if_neg (fun q => by omega)]
      refine br_t rfl ⟨vi, ?_⟩
      rw [hG i (by omega)]
      refine pk_le (g' i) (L (7 * u + i)) (fun h => nm_r (nI_1 i) (ih (i + 1) aG g' (by omega) hG hb (fun t ht hj => ?_))) (fun h => ⟨vi, nm_e (nm_r (nI_1 i) (ih (i + 1) _ (fun t => if t = i then L (7 * u + i) else g' t) (by omega) (tr_Rp_u hG (fun j _ => rfl)) (fun t ht => ?_) (fun t ht hj => ?_)))⟩)
      · rw [hg t ht hj]
        by_cases w : t < i ∧ L (7 * u + t) < g t
        · rw [if_pos w, if_pos ⟨by omega, w.2⟩]
        · rw [if_neg w, if_neg (fun q => w ⟨by
            by_cases e : t = i
            · rw [e] at q
              omega
            · omega, q.2⟩)]
      · show (if t = i then L (7 * u + i) else g' t) ≤ 1000
        have := hb t ht
        split <;> omega
      · show (if t = i then L (7 * u + i) else g' t) = _
        by_cases e : t = i
        · rw [if_pos e, e, if_pos ⟨by omega, by omega⟩]
        · rw [if_neg e, hg t ht hj]
          by_cases w : t < i ∧ L (7 * u + t) < g t
          · rw [if_pos w, if_pos ⟨by omega, w.2⟩]
          · rw [if_neg w, if_neg (fun q => w ⟨by omega, q.2⟩)]
theorem tx_jn {post : SX → Prop} {fb fc fs fm : Int32} {aL aT aB aG aJ : Nat → Int32} {L g : Nat → Nat} {J : Nat → Prop} {n u : Nat} (h7 : n ≤ 7) (hl : tr_Rp 49 aL L) (hL : ∀ j, j < 49 → L j ≤ 60) (hu : u < n) (hJ : tr_Jn n aJ J)
    (hG : tr_Rp n aG g) (hb : ∀ t, t < n → g t ≤ 1000)
    (K : ∀ aG aJ g', tr_Jn n aJ (fun t => J t ∨ t = u) → tr_Rp n aG g' → (∀ t, t < n → g' t ≤ 1000) → (∀ t, t < n → ¬ (J t ∨ t = u) → g' t = if L (7 * u + t) < g t then L (7 * u + t) else g t) → post (nI n, fb, fc, fs, fm, aL, aT, aB, aG, aJ)) :
    wpX_join post (nI n, fb, fc, fs, fm, aL, aT, aB, aG, aJ) (nI u) := by
  unfold wpX_join
  dsimp only
  have hJ' : tr_Jn n (upd aJ u 1) (fun t => J t ∨ t = u) := by
    intro t ht
    by_cases z : t = u
    · refine ⟨fun _ => ?_, fun q => absurd (Or.inr z) q⟩
      rw [z]; exact pk_us
    · rw [pk_un z]
      exact ⟨fun q => (hJ t ht).1 (q.resolve_right z), fun q => (hJ t ht).2 (fun w => q (Or.inl w))⟩
  refine ⟨vp_in_nI (by omega) (by omega), nm_r (e' := upd aJ u 1) (by rw [nI_clamp (by omega), tr_vb1]) ⟨n + 1, ?_⟩⟩
  exact tx_jn_l (g := g) h7 hl hL hu hJ' (fun aG' g' => K aG' _ g' hJ') n 0 aG g (by omega) hG hb (fun t ht hj => by rw [if_neg (fun q => by omega)])
theorem tx_nr_l {post : Int32 → Prop} {fb fc fs fm : Int32} {aL aT aB aG aJ : Nat → Int32} {g : Nat → Nat} {J : Nat → Prop} {n : Nat} (h7 : n ≤ 7) (hJ : tr_Jn n aJ J) (hG : tr_Rp n aG g) (hb : ∀ t, t < n → ¬ J t → g t < 1000)
    (K : ∀ v l, tr_Ns n J g n v l → post (nI v)) : ∀ d t v l, t + d = n → 1 ≤ t → l ≤ 1000 → tr_Ns n J g t v l → wX_nearestTownOutside_8 post (nI n) fb fc fs fm aL aT aB aG aJ (d + 1) (nI v) (nI l) (nI t) := by
  intro d
  induction d with
  | zero =>
    intro t v l ht h1 hl I
    obtain rfl : t = n := by omega
    exact br_t (nI_le (by omega) (by omega)) (K v l I)
  | succ d ih =>
    intro t v l ht h1 hl I
    have vi : vp_in (nI t) 7 := vp_in_nI (by omega) (by omega)
    refine br_f (nI_ge (by omega) (by omega)) ⟨vi, ?_⟩
    rw [nI_clamp (by omega)]
    by_cases z : J t
    · rw [(hJ t (by omega)).1 z]
      exact br_f (by decide) (nm_r (nI_1 t) (ih (t + 1) v l (by omega) (by omega) hl (tr_Ns_j I z)))
    · rw [(hJ t (by omega)).2 z]
      have gb := hb t (by omega) z
      refine br_t rfl ⟨vi, ?_⟩
      rw [hG t (by omega)]
      refine pk_le l (g t) (fun h => nm_r (nI_1 t) (ih (t + 1) v l (by omega) (by omega) hl (tr_Ns_g I h gb))) (fun h => ⟨vi, nm_e (nm_r (nI_1 t) (ih (t + 1) t (g t) (by omega) (by omega) (by omega) (tr_Ns_l I h1 z h)))⟩)
theorem tx_nr {post : Int32 → Prop} {fb fc fs fm : Int32} {aL aT aB aG aJ : Nat → Int32} {g : Nat → Nat} {J : Nat → Prop} {n : Nat} (h3 : 3 ≤ n) (h7 : n ≤ 7) (hJ : tr_Jn n aJ J) (hG : tr_Rp n aG g) (hb : ∀ t, t < n → ¬ J t → g t < 1000)
    (K : ∀ v l, tr_Ns n J g n v l → post (nI v)) : wpX_nearestTownOutside post (nI n, fb, fc, fs, fm, aL, aT, aB, aG, aJ) := by
  unfold wpX_nearestTownOutside
  dsimp only
  exact ⟨n - 1 + 1, tx_nr_l h7 hJ hG hb K (n - 1) 1 0 1000 (by omega) (by omega) (by omega) (tr_Ns_0 n J g)⟩
theorem tx_gn_l {post : SX → Prop} {fb fc : Int32} {aL aT aB : Nat → Int32} {L : Nat → Nat} {n : Nat} (h3 : 3 ≤ n) (h7 : n ≤ 7) (sy : tr_Sy L) (hl : tr_Rp 49 aL L) (hL : ∀ j, j < 49 → L j ≤ 60)
    (K : ∀ J g s m aG aJ, tr_Pm L n n J g s m → post (nI n, fb, fc, nI s, nI m, aL, aT, aB, aG, aJ)) :
    ∀ d i J g s m aG aJ, i + d = n → tr_Pm L n i J g s m → tr_Jn n aJ J → tr_Rp n aG g → (∀ t, t < n → g t ≤ 1000) →
      wX_growNet_49 post (d + 1) (nI i) (nI n) fb fc (nI s) (nI m) aL aT aB aG aJ := by
  intro d
  induction d with
  | zero =>
    intro i J g s m aG aJ hi I hJ hG hb
    obtain rfl : i = n := by omega
    exact br_t (nI_le (by omega) (by omega)) (K J g s m aG aJ I)
  | succ d ih =>
    intro i J g s m aG aJ hi I hJ hG hb
    have I' := I
    obtain ⟨h0, hn, hc, hGp, hNt⟩ := I'
    refine br_f (nI_ge (by omega) (by omega)) (tx_nr h3 h7 hJ hG (fun t ht hj => by have := (tr_Gp_w hGp hL h7 h0 ht hj).1; omega) (fun v l hN => ?_))
    obtain ⟨hv, hjv, hmin⟩ := tr_Ns_e hN h0 (by omega)
    have w := (tr_Gp_w hGp hL h7 h0 hv hjv).1
    have m60 := hNt.2.2
    have vi : vp_in (nI v) 7 := vp_in_nI (by omega) (by omega)
    rw [nI_clamp (by omega), hG v hv]
    refine ⟨vi, nm_r (nI_add s (g v)) ⟨vi, pk_le (g v) m (fun h => ?_) (fun h => ⟨vi, nm_e ?_⟩)⟩⟩
    · unfold wX_growNet_100
      refine tx_jn h7 hl hL hv hJ hG hb (fun aG' aJ' g' hJ' hG' hb' hg' => ?_)
      dsimp only
      have z := tr_Pm_s sy hL h7 I hv hjv hmin (J' := fun t => J t ∨ t = v) (g' := g') (fun u => Iff.rfl) hg'
      rw [if_neg (by omega)] at z
      exact nm_r (nI_1 i) (ih (i + 1) _ g' _ _ aG' aJ' (by omega) z hJ' hG' hb')
    · unfold wX_growNet_100
      refine tx_jn h7 hl hL hv hJ hG hb (fun aG' aJ' g' hJ' hG' hb' hg' => ?_)
      dsimp only
      have z := tr_Pm_s sy hL h7 I hv hjv hmin (J' := fun t => J t ∨ t = v) (g' := g') (fun u => Iff.rfl) hg'
      rw [if_pos h] at z
      exact nm_r (nI_1 i) (ih (i + 1) _ g' _ _ aG' aJ' (by omega) z hJ' hG' hb')
theorem tx_g0_l {post : SX → Prop} {fb fc : Int32} {aL aT aB : Nat → Int32} {L : Nat → Nat} {n : Nat} (h3 : 3 ≤ n) (h7 : n ≤ 7) (sy : tr_Sy L) (hl : tr_Rp 49 aL L) (hL : ∀ j, j < 49 → L j ≤ 60)
    (K : ∀ J g s m aG aJ, tr_Pm L n n J g s m → post (nI n, fb, fc, nI s, nI m, aL, aT, aB, aG, aJ)) :
    ∀ d i aG aJ, i + d = n → tr_Rp i aG (fun _ => 1000) → tr_Jn i aJ (fun _ => False) → wX_growNet_12 post (nI n) fb fc 0 0 (d + 1) (nI i) aL aT aB aG aJ := by
  intro d
  induction d with
  | zero =>
    intro i aG aJ hi hG hJ
    obtain rfl : i = n := by omega
    refine br_t (nI_le (by omega) (by omega)) (tx_jn (u := 0) h7 hl hL (by omega) hJ hG (fun t ht => Nat.le_refl _) (fun aG' aJ' g' hJ' hG' hb' hg' => ?_))
    dsimp only
    have iff0 : ∀ u : Nat, (False ∨ u = 0) ↔ u = 0 := fun u => ⟨fun q => q.resolve_left (fun w => w), Or.inr⟩
    have P1 : tr_Pm L i 1 (fun t => False ∨ t = 0) g' 0 0 := by
      refine ⟨Or.inr rfl, fun u hu => ?_, ?_, tr_Gp_s (J := fun _ => False) (tr_Gp_0 L i (fun _ q => q) (fun _ _ => rfl)) (fun u => Iff.rfl) hg', tr_Nt_0 (by omega) iff0⟩
      · rcases hu with q | q
        · exact absurd q (fun w => w)
        · omega
      · rw [tr_cp_add (P := fun _ => False) 0 (fun w => w) i (fun m _ => Iff.rfl) (by omega), tr_cp_none i (fun _ _ w => w)]
    exact ⟨i - 1 + 1, tx_gn_l h3 h7 sy hl hL K (i - 1) 1 _ g' 0 0 aG' aJ' (by omega) P1 hJ' hG' hb'⟩
  | succ d ih =>
    intro i aG aJ hi hG hJ
    have vi : vp_in (nI i) 7 := vp_in_nI (by omega) (by omega)
    refine br_f (nI_ge (by omega) (by omega)) ⟨vi, nm_r (e' := upd aG i (nI 1000)) (by rw [nI_clamp (by omega)]; rfl) ⟨vi, nm_r (e' := upd aJ i 0) (by rw [nI_clamp (by omega), tr_vb0]) (nm_r (nI_1 i) (ih (i + 1) _ _ (by omega) (tr_Rp_x (f := fun _ => 1000) hG) ?_))⟩⟩
    intro t ht
    refine ⟨fun q => absurd q (fun w => w), fun q => ?_⟩
    by_cases z : t = i
    · rw [z]; exact pk_us
    · rw [pk_un z]; exact (hJ t (by omega)).2 q
theorem tx_grow {post : SX → Prop} {fb fc fs fm : Int32} {aL aT aB aG aJ : Nat → Int32} {L : Nat → Nat} {n : Nat} (h3 : 3 ≤ n) (h7 : n ≤ 7) (sy : tr_Sy L) (hl : tr_Rp 49 aL L) (hL : ∀ j, j < 49 → L j ≤ 60)
    (K : ∀ s m aG aJ, s = tr_sm (fun k => tr_P L n k - 1) 60 → (∀ k, tr_P L n k = 1 ↔ m ≤ k) → m ≤ 60 → post (nI n, fb, fc, nI s, nI m, aL, aT, aB, aG, aJ)) :
    wpX_growNet post (nI n, fb, fc, fs, fm, aL, aT, aB, aG, aJ) := by
  unfold wpX_growNet
  dsimp only
  refine ⟨n + 1, tx_g0_l h3 h7 sy hl hL (fun J g s m aG aJ I => ?_) n 0 aG aJ (by omega) (fun j hj => absurd hj (Nat.not_lt_zero _)) (fun j hj => absurd hj (Nat.not_lt_zero _))⟩
  obtain ⟨h0, hn, hc, hGp, hNt⟩ := I
  obtain ⟨a, b, c⟩ := tr_Nt_e sy h7 hNt (tr_cp_all n hc)
  exact K s m aG aJ a b c
