/-! X: the next trip -/
theorem tx_gr_l {post : Int32 → Prop} {fb fc fs fm : Int32} {aL aT aB aG aJ : Nat → Int32} {f : Nat → Nat} {n : Nat} (h7 : n ≤ 7) (ht : tr_Rp n aT f) (hf : ∀ k, k < n → f k < n) :
    ∀ i, i + 1 < n → post (nI (tr_gr f i)) → wX_lastPlaceThatCanGrow_7 post (nI n) fb fc fs fm aL aT aB aG aJ (i + 1) (nI i) := by
  intro i
  induction i with
  | zero => intro _ K; exact br_t (nI_le (b := 0) (by omega) (by omega)) K
  | succ i ih =>
    intro hi K
    have a := hf (i + 1) (by omega)
    have b := hf (i + 1 + 1) (by omega)
    rw [tr_gr] at K
    refine br_f (nI_nle (by omega) (by omega)) ⟨vp_in_nI (by omega) (by omega), by rw [nI_1]; exact vp_in_nI (by omega) (by omega), ?_⟩
    rw [nI_1, nI_clamp (by omega), nI_clamp (by omega), ht (i + 1 + 1) (by omega), ht (i + 1) (by omega)]
    refine pk_le (f (i + 1 + 1)) (f (i + 1)) (fun h => nm_r (pk_m1 i) (ih (by omega) ?_)) (fun h => ?_)
    · rw [if_neg (Nat.not_lt.mpr h)] at K
      exact K
    · rw [if_pos h] at K
      exact K
theorem tx_gr {post : Int32 → Prop} {fb fc fs fm : Int32} {aL aT aB aG aJ : Nat → Int32} {f : Nat → Nat} {n : Nat} (h3 : 3 ≤ n) (h7 : n ≤ 7) (ht : tr_Rp n aT f) (hf : ∀ k, k < n → f k < n)
    (K : post (nI (tr_gr f (n - 2)))) : wpX_lastPlaceThatCanGrow post (nI n, fb, fc, fs, fm, aL, aT, aB, aG, aJ) := by
  have e1 : nI n - 2 = nI (n - 2) := pk_sub (b := 2) (by omega)
  unfold wpX_lastPlaceThatCanGrow
  dsimp only
  exact nm_r e1 ⟨_, tx_gr_l h7 ht hf (n - 2) (by omega) K⟩
theorem tx_gt_l {post : Int32 → Prop} {fb fc fs fm : Int32} {aL aT aB aG aJ : Nat → Int32} {f : Nat → Nat} {n p : Nat} (h7 : n ≤ 7) (ht : tr_Rp n aT f) (hf : ∀ k, k < n → f k < n) :
    ∀ d, p + d < n → post (nI (tr_gt f p d)) → wX_lastPlaceWithGreaterTown_7 post (nI p) (nI n) fb fc fs fm aL aT aB aG aJ (d + 1) (nI (p + d)) := by
  intro d
  induction d with
  | zero => intro _ K; exact br_t (nI_le (by omega) (by omega)) K
  | succ d ih =>
    intro hi K
    have a := hf p (by omega)
    have b := hf (p + (d + 1)) (by omega)
    rw [tr_gt] at K
    refine br_f (nI_ge (by omega) (by omega)) ⟨vp_in_nI (by omega) (by omega), vp_in_nI (by omega) (by omega), ?_⟩
    rw [nI_clamp (by omega), nI_clamp (by omega), ht p (by omega), ht (p + (d + 1)) (by omega)]
    refine pk_le (f (p + (d + 1))) (f p) (fun h => nm_r (pk_m1 (p + d)) (ih (by omega) ?_)) (fun h => ?_)
    · rw [if_neg (by omega)] at K
      exact K
    · rw [if_pos h] at K
      exact K
theorem tx_gt {post : Int32 → Prop} {fb fc fs fm : Int32} {aL aT aB aG aJ : Nat → Int32} {f : Nat → Nat} {n p : Nat} (h3 : 3 ≤ n) (h7 : n ≤ 7) (ht : tr_Rp n aT f) (hf : ∀ k, k < n → f k < n) (hp : p < n)
    (K : post (nI (tr_gt f p (n - 1 - p)))) : wpX_lastPlaceWithGreaterTown post (nI n, fb, fc, fs, fm, aL, aT, aB, aG, aJ) (nI p) := by
  have e1 : nI n - 1 = nI (p + (n - 1 - p)) := by
    rw [show p + (n - 1 - p) = n - 1 by omega]
    exact pk_sub (b := 1) (by omega)
  unfold wpX_lastPlaceWithGreaterTown
  dsimp only
  exact nm_r e1 ⟨_, tx_gt_l h7 ht hf (n - 1 - p) (by omega) K⟩
theorem tx_sw {post : SX → Prop} {fn fb fc fs fm : Int32} {aL aT aB aG aJ : Nat → Int32} {f : Nat → Nat} {n i j : Nat} (h7 : n ≤ 7) (ht : tr_Rp n aT f) (hi : i < n) (hj : j < n)
    (K : ∀ aT', tr_Rp n aT' (tr_sw f i j) → post (fn, fb, fc, fs, fm, aL, aT', aB, aG, aJ)) : wpX_swapPlaces post (fn, fb, fc, fs, fm, aL, aT, aB, aG, aJ) (nI i) (nI j) := by
  unfold wpX_swapPlaces
  dsimp only
  rw [nI_clamp (by omega), nI_clamp (by omega)]
  have vi : vp_in (nI i) 7 := vp_in_nI (by omega) (by omega)
  have vj : vp_in (nI j) 7 := vp_in_nI (by omega) (by omega)
  refine ⟨vi, nm_e ⟨vj, vi, nm_e ⟨vj, nm_e (K _ ?_)⟩⟩⟩
  intro x hx
  unfold tr_sw
  by_cases z1 : x = j
  · rw [z1, pk_us, if_pos rfl, ht i hi]
  · by_cases z2 : x = i
    · rw [pk_un z1, z2, pk_us, if_neg (fun q => z1 (z2.trans q)), if_pos rfl, ht j hj]
    · rw [pk_un z1, pk_un z2, if_neg z1, if_neg z2, ht x hx]
theorem tx_rv_l {post : Int32 → SX → Prop} {fb fc fs fm : Int32} {aL aB aG aJ : Nat → Int32} {f : Nat → Nat} {n p q : Nat} (h7 : n ≤ 7) (hp : p < n) (hq : q ≤ n - 1 - p)
    (K : ∀ aT', tr_Rp n aT' (tr_rv f n p q) → post 1 (nI n, fb, fc, fs, fm, aL, aT', aB, aG, aJ)) :
    ∀ d m aT, m + d = q → tr_Rp n aT (tr_rv f n p m) → wX_toNextTrip_37 post (nI p) (nI q) (d + 1) (nI (m + 1)) (nI n) fb fc fs fm aL aT aB aG aJ := by
  intro d
  induction d with
  | zero =>
    intro m aT hm ht
    obtain rfl : m = q := by omega
    exact br_t (nI_lt (by omega) (by omega)) (K aT ht)
  | succ d ih =>
    intro m aT hm ht
    refine br_f (nI_nlt (by omega) (by omega)) ?_
    rw [nI_add, pk_sub (by omega)]
    refine tx_sw h7 ht (by omega) (by omega) (fun aT' h' => ?_)
    dsimp only
    exact nm_r (nI_1 (m + 1)) (ih (m + 1) aT' (by omega) h')
theorem tx_nx {post : Int32 → SX → Prop} {fb fc fs fm : Int32} {aL aT aB aG aJ : Nat → Int32} {f : Nat → Nat} {n p : Nat} (h3 : 3 ≤ n) (h7 : n ≤ 7) (ht : tr_Rp n aT f) (hf : ∀ k, k < n → f k < n) (hp : tr_gr f (n - 2) = p)
    (K0 : p = 0 → post 0 (nI n, fb, fc, fs, fm, aL, aT, aB, aG, aJ))
    (K1 : p ≠ 0 → ∀ aT', tr_Rp n aT' (tr_nx n f p (tr_gt f p (n - 1 - p))) → post 1 (nI n, fb, fc, fs, fm, aL, aT', aB, aG, aJ)) :
    wpX_toNextTrip post (nI n, fb, fc, fs, fm, aL, aT, aB, aG, aJ) := by
  have pl := tr_gr_le f (n - 2)
  rw [hp] at pl
  unfold wpX_toNextTrip
  dsimp only
  refine tx_gr h3 h7 ht hf ?_
  rw [hp]
  refine pk_eq p 0 (fun e => K0 e) (fun ne => ?_)
  refine tx_gt h3 h7 ht hf (by omega) ?_
  have ob := tr_gt_b f p (n - 1 - p)
  refine tx_sw h7 ht (by omega) (by omega) (fun aT' h' => ?_)
  dsimp only
  have e1 : (nI n - 1 - nI p) / 2 = nI ((n - 1 - p) / 2) := by
    rw [show nI n - 1 = nI (n - 1) from pk_sub (b := 1) (by omega), pk_sub (by omega)]
    exact pk_div (d := 2) (by omega) (by omega) (by omega)
  refine ⟨by decide, nm_r e1 ⟨(n - 1 - p) / 2 + 1, ?_⟩⟩
  exact tx_rv_l h7 (by omega) (by omega) (K1 ne) ((n - 1 - p) / 2) 0 aT' (by omega) h'
theorem tx_ft_l {post : SX → Prop} {fb fc fs fm : Int32} {aL aB aG aJ : Nat → Int32} {n : Nat} (h7 : n ≤ 7)
    (K : ∀ aT', tr_Rp n aT' (fun k => k) → post (nI n, fb, fc, fs, fm, aL, aT', aB, aG, aJ)) : ∀ d i aT, i + d = n → tr_Rp i aT (fun k => k) → wX_toFirstTrip_2 post (nI n) fb fc fs fm (d + 1) (nI i) aL aT aB aG aJ := by
  intro d
  induction d with
  | zero =>
    intro i aT hi hB
    obtain rfl : i = n := by omega
    exact br_t (nI_le (by omega) (by omega)) (K aT hB)
  | succ d ih =>
    intro i aT hi hB
    refine br_f (nI_ge (by omega) (by omega)) ⟨vp_in_nI (by omega) (by omega), nm_r (e' := upd aT i (nI i)) (by rw [nI_clamp (by omega)]) (nm_r (nI_1 i) (ih (i + 1) _ (by omega) (tr_Rp_x (f := fun k => k) hB)))⟩
theorem tx_ft {post : SX → Prop} {fb fc fs fm : Int32} {aL aT aB aG aJ : Nat → Int32} {n : Nat} (h7 : n ≤ 7)
    (K : ∀ aT', tr_Rp n aT' (fun k => k) → post (nI n, fb, fc, fs, fm, aL, aT', aB, aG, aJ)) : wpX_toFirstTrip post (nI n, fb, fc, fs, fm, aL, aT, aB, aG, aJ) := by
  unfold wpX_toFirstTrip
  dsimp only
  exact ⟨n + 1, tx_ft_l h7 K n 0 aT (by omega) (fun j hj => absurd hj (Nat.not_lt_zero _))⟩
/-! X: the best of the trips of a kind -/
def tr_Q (n kd u v t : Nat) : Prop := kd = 0 ∨ (kd = 1 ∧ tr_us (tr_R n t) n u v) ∨ (kd = 2 ∧ ¬ tr_us (tr_R n t) n u v)
def tr_F (n : Nat) (aB : Nat → Int32) (t : Nat) : Prop := tr_Rp n aB (tr_R n t)
theorem tx_62 {post : SX → Prop} {J : Int32 → Int32 → Int32 → Int32 → Int32 → Int32 → Int32 → (Nat → Int32) → (Nat → Int32) → (Nat → Int32) → (Nat → Int32) → (Nat → Int32) → Prop} {x1 x2 x3 fs fm : Int32} {aL aT aB aG aJ : Nat → Int32} {L : Nat → Nat} {Q : Nat → Prop} {n t b c : Nat} (h3 : 3 ≤ n) (h7 : n ≤ 7) (ht : t < tr_T n) (hT : tr_Rp n aT (tr_R n t))
    (hb : b ≤ 1000) (hB : tr_BX (tr_ln L n) Q (t + 1) b c (tr_F n aB))
    (K0 : ∀ b c aT aB, t + 1 = tr_T n → b ≤ 1000 → tr_BX (tr_ln L n) Q (t + 1) b c (tr_F n aB) → J 0 (nI (t + 1)) (nI n) (nI b) (nI c) fs fm aL aT aB aG aJ)
    (K1 : ∀ b c aT aB, t + 1 < tr_T n → b ≤ 1000 → tr_Rp n aT (tr_R n (t + 1)) → tr_BX (tr_ln L n) Q (t + 1) b c (tr_F n aB) → J 1 (nI (t + 1)) (nI n) (nI b) (nI c) fs fm aL aT aB aG aJ) :
    wX_findBest_62 post J x1 x2 x3 (nI t) (nI n) (nI b) (nI c) fs fm aL aT aB aG aJ := by
  unfold wX_findBest_62
  refine tx_nx h3 h7 hT (fun k hk => tr_R_b h3 h7 ht hk) rfl (fun e => ?_) (fun ne aT' h' => ?_)
  · dsimp only
    refine nm_r (nI_1 t) (K0 b c aT aB ?_ hb hB)
    apply Classical.byContradiction
    intro q
    exact (tr_R_s h3 h7 (t := t) (by omega)).1 e
  · dsimp only
    have z : t + 1 < tr_T n := by
      apply Classical.byContradiction
      intro q
      exact ne (tr_R_e h3 h7 (t := t) (by omega))
    exact nm_r (nI_1 t) (K1 b c aT' aB z hb (tr_Rp_c h' (tr_R_s h3 h7 z).2) hB)
theorem tx_58 {post : SX → Prop} {J : Int32 → Int32 → Int32 → Int32 → Int32 → Int32 → Int32 → (Nat → Int32) → (Nat → Int32) → (Nat → Int32) → (Nat → Int32) → (Nat → Int32) → Prop} {x1 x2 x3 fs fm : Int32} {aL aT aB aG aJ : Nat → Int32} {L : Nat → Nat} {Q : Nat → Prop} {n t b c : Nat} (h3 : 3 ≤ n) (h7 : n ≤ 7) (hl : tr_Rp 49 aL L) (hL : ∀ j, j < 49 → L j ≤ 60) (ht : t < tr_T n) (hT : tr_Rp n aT (tr_R n t))
    (hb : b ≤ 1000) (hQ : Q t) (hB : tr_BX (tr_ln L n) Q t b c (tr_F n aB))
    (K0 : ∀ b c aT aB, t + 1 = tr_T n → b ≤ 1000 → tr_BX (tr_ln L n) Q (t + 1) b c (tr_F n aB) → J 0 (nI (t + 1)) (nI n) (nI b) (nI c) fs fm aL aT aB aG aJ)
    (K1 : ∀ b c aT aB, t + 1 < tr_T n → b ≤ 1000 → tr_Rp n aT (tr_R n (t + 1)) → tr_BX (tr_ln L n) Q (t + 1) b c (tr_F n aB) → J 1 (nI (t + 1)) (nI n) (nI b) (nI c) fs fm aL aT aB aG aJ) :
    wX_findBest_58 post J x1 x2 x3 (nI t) (nI n) (nI b) (nI c) fs fm aL aT aB aG aJ := by
  have lb := tr_ln_b hL h3 h7 ht
  unfold wX_findBest_58
  refine tx_cmp h3 h7 hl hT (fun k hk => tr_R_b h3 h7 ht hk) (ln := tr_ln L n t) rfl (by omega) hb (fun e => ?_) (fun e => ?_) (fun e aB' hB' => ?_)
  · dsimp only
    exact tx_62 h3 h7 ht hT hb (tr_BX_e hB (by omega) hQ e) K0 K1
  · dsimp only
    exact tx_62 h3 h7 ht hT hb (tr_BX_g hB (by omega) e) K0 K1
  · dsimp only
    exact tx_62 h3 h7 ht hT (by omega) (tr_BX_l hB (by omega) hQ e hB') K0 K1
theorem tx_fb_s {post : SX → Prop} {fs fm : Int32} {aL aT aB aG aJ : Nat → Int32} {L : Nat → Nat} {n kd u v t b c N : Nat} (h3 : 3 ≤ n) (h7 : n ≤ 7) (hl : tr_Rp 49 aL L) (hL : ∀ j, j < 49 → L j ≤ 60) (hk : kd < 3) (hu : u < 7) (hv : v < 7)
    (ht : t < tr_T n) (hb : b ≤ 1000) (hT : tr_Rp n aT (tr_R n t)) (hB : tr_BX (tr_ln L n) (tr_Q n kd u v) t b c (tr_F n aB))
    (K0 : ∀ b c aT aB, t + 1 = tr_T n → b ≤ 1000 → tr_BX (tr_ln L n) (tr_Q n kd u v) (t + 1) b c (tr_F n aB) → wX_findBest_22 post (nI kd) (nI u) (nI v) N 0 (nI (t + 1)) (nI n) (nI b) (nI c) fs fm aL aT aB aG aJ)
    (K1 : ∀ b c aT aB, t + 1 < tr_T n → b ≤ 1000 → tr_Rp n aT (tr_R n (t + 1)) → tr_BX (tr_ln L n) (tr_Q n kd u v) (t + 1) b c (tr_F n aB) → wX_findBest_22 post (nI kd) (nI u) (nI v) N 1 (nI (t + 1)) (nI n) (nI b) (nI c) fs fm aL aT aB aG aJ) :
    wX_findBest_22 post (nI kd) (nI u) (nI v) (N + 1) 1 (nI t) (nI n) (nI b) (nI c) fs fm aL aT aB aG aJ := by
  have T7 := (tr_T_b h3 h7).2
  refine br_f (by decide) (br_f (nI_ge (b := 720) (by omega) (by decide)) (pk_eq kd 0 (fun e => ?_) (fun ne => ?_)))
  · exact tx_58 h3 h7 hl hL ht hT hb (Or.inl e) hB K0 K1
  · refine tx_us h3 h7 hT (fun k hk => tr_R_b h3 h7 ht hk) hu hv (fun w => ?_) (fun w => ?_)
    · refine pk_eq kd 1 (fun e => ?_) (fun ne1 => ?_)
      · exact br_t rfl (tx_58 h3 h7 hl hL ht hT hb (Or.inr (Or.inl ⟨e, w⟩)) hB K0 K1)
      · refine br_f (by decide) (tx_62 h3 h7 ht hT hb (tr_BX_n hB ?_) K0 K1)
        rintro (q | q | q)
        · exact ne q
        · exact ne1 q.1
        · exact q.2 w
    · refine pk_eq kd 1 (fun e => ?_) (fun ne1 => ?_)
      · refine br_f (by decide) (tx_62 h3 h7 ht hT hb (tr_BX_n hB ?_) K0 K1)
        rintro (q | q | q)
        · exact ne q
        · exact w q.2
        · omega
      · exact br_t rfl (tx_58 h3 h7 hl hL ht hT hb (Or.inr (Or.inr ⟨by omega, w⟩)) hB K0 K1)
theorem tx_fb_l {post : SX → Prop} {fs fm : Int32} {aL aG aJ : Nat → Int32} {L : Nat → Nat} {n kd u v : Nat} (h3 : 3 ≤ n) (h7 : n ≤ 7) (hl : tr_Rp 49 aL L) (hL : ∀ j, j < 49 → L j ≤ 60) (hk : kd < 3) (hu : u < 7) (hv : v < 7)
    (K : ∀ b c aT aB, b ≤ 1000 → tr_BX (tr_ln L n) (tr_Q n kd u v) (tr_T n) b c (tr_F n aB) → post (nI n, nI b, nI c, fs, fm, aL, aT, aB, aG, aJ)) :
    ∀ d t b c aT aB, t + d + 1 = tr_T n → b ≤ 1000 → tr_Rp n aT (tr_R n t) → tr_BX (tr_ln L n) (tr_Q n kd u v) t b c (tr_F n aB) →
      wX_findBest_22 post (nI kd) (nI u) (nI v) (d + 2) 1 (nI t) (nI n) (nI b) (nI c) fs fm aL aT aB aG aJ := by
  have T7 := (tr_T_b h3 h7).2
  intro d
  induction d with
  | zero =>
    intro t b c aT aB ht hb hT hB
    refine tx_fb_s h3 h7 hl hL hk hu hv (by omega) hb hT hB (fun b c aT aB q hb hB => ?_) (fun b c aT aB q => by omega)
    rw [q] at hB
    exact br_t rfl (K b c aT aB hb hB)
  | succ d ih =>
    intro t b c aT aB ht hb hT hB
    refine tx_fb_s h3 h7 hl hL hk hu hv (by omega) hb hT hB (fun b c aT aB q => by omega) (fun b c aT aB q hb hT hB => ?_)
    exact ih (t + 1) b c aT aB (by omega) hb hT hB
theorem tx_find {post : SX → Prop} {fb fc fs fm : Int32} {aL aT aB aG aJ : Nat → Int32} {L : Nat → Nat} {n kd u v : Nat} (h3 : 3 ≤ n) (h7 : n ≤ 7) (hl : tr_Rp 49 aL L) (hL : ∀ j, j < 49 → L j ≤ 60) (hk : kd < 3) (hu : u < 7) (hv : v < 7)
    (K : ∀ b c aT aB, b ≤ 1000 → tr_BX (tr_ln L n) (tr_Q n kd u v) (tr_T n) b c (tr_F n aB) → post (nI n, nI b, nI c, fs, fm, aL, aT, aB, aG, aJ)) :
    wpX_findBest post (nI n, fb, fc, fs, fm, aL, aT, aB, aG, aJ) (nI kd) (nI u) (nI v) := by
  have T1 := (tr_T_b h3 h7).1
  unfold wpX_findBest
  dsimp only
  refine tx_ft h7 (fun aT' h' => ?_)
  dsimp only
  exact ⟨tr_T n - 1 + 2, tx_fb_l h3 h7 hl hL hk hu hv K (tr_T n - 1) 0 1000 0 aT' aB (by omega) (by omega) (tr_Rp_c h' (fun k hk => (tr_R_0 h3 h7 hk).symm)) (tr_BX_0 _ _ _)⟩
