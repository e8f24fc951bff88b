/-! X: the methods that read a trip -/
theorem tr_ix (a b : Nat) : nI a * 7 + nI b = nI (7 * a + b) := by
  rw [show (7 : Int32) = nI 7 from rfl, pk_mul, nI_add, Nat.mul_comm]
theorem tr_iy (a b : Nat) : 7 * nI a + nI b = nI (7 * a + b) := by
  rw [show (7 : Int32) = nI 7 from rfl, pk_mul, nI_add]
theorem tr_Rp_x {a : Nat → Int32} {f : Nat → Nat} {i : Nat} (h : tr_Rp i a f) : tr_Rp (i + 1) (upd a i (nI (f i))) f := by
  intro j hj
  by_cases z : j = i
  · rw [z]; exact pk_us
  · rw [pk_un z]; exact h j (by omega)
theorem tx_lb {post : Int32 → Prop} {fn fb fc fs fm : Int32} {aL aT aB aG aJ : Nat → Int32} {L : Nat → Nat} {a b : Nat} (hl : tr_Rp 49 aL L) (h : 7 * a + b < 49) (k : post (nI (L (7 * a + b)))) :
    wpX_lengthBetween post (fn, fb, fc, fs, fm, aL, aT, aB, aG, aJ) (nI a) (nI b) := by
  unfold wpX_lengthBetween
  dsimp only
  rw [tr_ix, nI_clamp (by omega), hl _ h]
  exact ⟨vp_in_nI h (by omega), k⟩
theorem tr_nk_s {n k : Nat} (h : k + 1 < n) : tr_nk n k = k + 1 := if_neg (by omega)
theorem tr_nk_e {n k : Nat} (h : k + 1 = n) : tr_nk n k = 0 := if_pos h
theorem tx_ln_l {post : Int32 → Prop} {fb fc fs fm : Int32} {aL aT aB aG aJ : Nat → Int32} {L f : Nat → Nat} {n : Nat} (h7 : n ≤ 7) (hl : tr_Rp 49 aL L) (ht : tr_Rp n aT f) (hf : ∀ k, k < n → f k < n)
    (K : post (nI (tr_sm (tr_tm L f n) n))) : ∀ d i, i + 1 + d = n → wX_tripLength_24 post (nI n) fb fc fs fm aL aT aB aG aJ (d + 1) (nI (tr_tm L f n (n - 1) + tr_sm (tr_tm L f n) i)) (nI (i + 1)) := by
  intro d
  induction d with
  | zero =>
    intro i hi
    have e : tr_tm L f n (n - 1) + tr_sm (tr_tm L f n) i = tr_sm (tr_tm L f n) n := by
      obtain rfl : n = i + 1 := by omega
      rw [tr_sm, Nat.add_sub_cancel, Nat.add_comm]
    rw [e]
    exact br_t (nI_le (by omega) (by omega)) K
  | succ d ih =>
    intro i hi
    have a := hf i (by omega)
    have b := hf (i + 1) (by omega)
    refine br_f (nI_ge (by omega) (by omega)) ⟨by rw [nI_pred]; exact vp_in_nI (by omega) (by omega), vp_in_nI (by omega) (by omega), ?_⟩
    rw [nI_pred, nI_clamp (by omega), nI_clamp (by omega), ht i (by omega), ht (i + 1) (by omega)]
    refine tx_lb hl (by omega) (nm_r ?_ (nm_r (nI_1 (i + 1)) (ih (i + 1) (by omega))))
    rw [nI_add, tr_sm, tr_tm, tr_tm, tr_nk_s (k := i) (by omega), Nat.add_assoc]
theorem tx_ln {post : Int32 → Prop} {fb fc fs fm : Int32} {aL aT aB aG aJ : Nat → Int32} {L f : Nat → Nat} {n : Nat} (h3 : 3 ≤ n) (h7 : n ≤ 7) (hl : tr_Rp 49 aL L) (ht : tr_Rp n aT f) (hf : ∀ k, k < n → f k < n)
    (K : post (nI (tr_sm (tr_tm L f n) n))) : wpX_tripLength post (nI n, fb, fc, fs, fm, aL, aT, aB, aG, aJ) := by
  have a := hf (n - 1) (by omega)
  have b := hf 0 (by omega)
  have e1 : nI n - 1 = nI (n - 1) := pk_sub (b := 1) (by omega)
  unfold wpX_tripLength
  dsimp only
  rw [e1, nI_clamp (by omega), ht (n - 1) (by omega), ht 0 (by omega)]
  refine ⟨vp_in_nI (by omega) (by omega), tx_lb hl (by omega) ⟨n - 1 + 1, ?_⟩⟩
  have z := tx_ln_l (aB := aB) (aG := aG) (aJ := aJ) (fb := fb) (fc := fc) (fs := fs) (fm := fm) h7 hl ht hf K (n - 1) 0 (by omega)
  have e2 : tr_tm L f n (n - 1) + tr_sm (tr_tm L f n) 0 = L (7 * f (n - 1) + f 0) := by
    rw [tr_sm, tr_tm, tr_nk_e (by omega), Nat.add_zero]
  rw [e2] at z
  exact z
def tr_pv (n i : Nat) : Nat := if i = 0 then n - 1 else i - 1
theorem tr_pv_s (n i : Nat) : tr_pv n (i + 1) = i := by
  rw [tr_pv, if_neg (by omega), Nat.add_sub_cancel]
theorem tr_pv_lt {n i : Nat} (hn : 0 < n) (h : i ≤ n) : tr_pv n i < n := by
  unfold tr_pv; split <;> omega
theorem tr_nk_pv {n i : Nat} (hn : 0 < n) (h : i < n) : tr_nk n (tr_pv n i) = i := by
  unfold tr_nk tr_pv; split <;> split <;> omega
theorem tr_pv_nk {n i : Nat} (h : i < n) : tr_pv n (tr_nk n i) = i := by
  unfold tr_nk tr_pv; split <;> split <;> omega
theorem tx_u44 {post : Int32 → Prop} {J : Int32 → Int32 → Prop} {fn fb fc fs fm : Int32} {aL aT aB aG aJ : Nat → Int32} {a b u v i : Nat} (ha : a < 7) (hb : b < 7) (hu : u < 7) (hv : v < 7) (h1 : a = v → b = u → post 1) (h2 : ¬ (a = v ∧ b = u) → J (nI b) (nI (i + 1))) :
    wX_tripUses_44 post J (nI u) (nI v) (nI a) (nI i) (nI b) fn fb fc fs fm aL aT aB aG aJ :=
  pk_eq a v (fun e => pk_eq b u (fun e2 => h1 e e2) (fun ne => nm_r (nI_1 i) (h2 (fun q => ne q.2)))) (fun ne => nm_r (nI_1 i) (h2 (fun q => ne q.1)))
theorem tx_us_l {post : Int32 → Prop} {fb fc fs fm : Int32} {aL aT aB aG aJ : Nat → Int32} {f : Nat → Nat} {n u v : Nat} (h3 : 3 ≤ n) (h7 : n ≤ 7) (ht : tr_Rp n aT f) (hf : ∀ k, k < n → f k < n) (hu : u < 7) (hv : v < 7)
    (hT : tr_us f n u v → post 1) (hF : ¬ tr_us f n u v → post 0) : ∀ d i, i + d = n → (∀ k, k < i → ¬ tr_pr (f (tr_pv n k)) (f k) u v) → wX_tripUses_15 post (nI u) (nI v) (nI n) fb fc fs fm aL aT aB aG aJ (d + 1) (nI (f (tr_pv n i))) (nI i) := by
  intro d
  induction d with
  | zero =>
    intro i hi hk
    refine br_t (nI_le (by omega) (by omega)) (hF ?_)
    rintro ⟨k, hkn, q⟩
    refine hk (tr_nk n k) (by have := tr_nk_lt hkn; omega) ?_
    rw [tr_pv_nk hkn]
    exact q
  | succ d ih =>
    intro i hi hk
    have a := hf i (by omega)
    have b := hf (tr_pv n i) (tr_pv_lt (by omega) (by omega))
    have yes : tr_pr (f (tr_pv n i)) (f i) u v → post 1 := fun q => hT ⟨tr_pv n i, tr_pv_lt (by omega) (by omega), by rw [tr_nk_pv (by omega) (by omega)]; exact q⟩
    have no : ¬ tr_pr (f (tr_pv n i)) (f i) u v → wX_tripUses_15 post (nI u) (nI v) (nI n) fb fc fs fm aL aT aB aG aJ (d + 1) (nI (f i)) (nI (i + 1)) := by
      intro q
      have z := ih (i + 1) (by omega) (tr_lt1 hk q)
      rw [tr_pv_s] at z
      exact z
    refine br_f (nI_ge (by omega) (by omega)) ⟨vp_in_nI (by omega) (by omega), nm_r (e' := nI (f i)) (by rw [nI_clamp (by omega), ht i (by omega)]) ?_⟩
    refine pk_eq (f (tr_pv n i)) u (fun e => pk_eq (f i) v (fun e2 => yes (Or.inl ⟨e, e2⟩)) (fun ne => ?_)) (fun ne => ?_)
    · exact tx_u44 (by omega) (by omega) hu hv (fun q1 q2 => yes (Or.inr ⟨q1, q2⟩)) (fun q => no (fun w => by
        rcases w with w | w
        · exact ne w.2
        · exact q w))
    · exact tx_u44 (by omega) (by omega) hu hv (fun q1 q2 => yes (Or.inr ⟨q1, q2⟩)) (fun q => no (fun w => by
        rcases w with w | w
        · exact ne w.1
        · exact q w))
theorem tx_us {post : Int32 → Prop} {fb fc fs fm : Int32} {aL aT aB aG aJ : Nat → Int32} {f : Nat → Nat} {n u v : Nat} (h3 : 3 ≤ n) (h7 : n ≤ 7) (ht : tr_Rp n aT f) (hf : ∀ k, k < n → f k < n) (hu : u < 7) (hv : v < 7)
    (hT : tr_us f n u v → post 1) (hF : ¬ tr_us f n u v → post 0) : wpX_tripUses post (nI n, fb, fc, fs, fm, aL, aT, aB, aG, aJ) (nI u) (nI v) := by
  have e1 : nI n - 1 = nI (n - 1) := pk_sub (b := 1) (by omega)
  unfold wpX_tripUses
  dsimp only
  rw [e1, nI_clamp (by omega), ht (n - 1) (by omega)]
  refine ⟨vp_in_nI (by omega) (by omega), nm_e ⟨n + 1, ?_⟩⟩
  exact tx_us_l h3 h7 ht hf hu hv hT hF n 0 (by omega) (fun k h => absurd h (Nat.not_lt_zero _))
theorem tx_cp_l {post : SX → Prop} {fb fc fs fm : Int32} {aL aT aG aJ : Nat → Int32} {f : Nat → Nat} {n : Nat} (h7 : n ≤ 7) (ht : tr_Rp n aT f)
    (K : ∀ aB', tr_Rp n aB' f → post (nI n, fb, fc, fs, fm, aL, aT, aB', aG, aJ)) : ∀ d i aB, i + d = n → tr_Rp i aB f → wX_compareTripWithBest_43 post (nI n) fb fc fs fm (d + 1) (nI i) aL aT aB aG aJ := by
  intro d
  induction d with
  | zero =>
    intro i aB hi hB
    obtain rfl : i = n := by omega
    exact br_t (nI_le (by omega) (by omega)) (K aB hB)
  | succ d ih =>
    intro i aB hi hB
    refine br_f (nI_ge (by omega) (by omega)) ⟨vp_in_nI (by omega) (by omega), vp_in_nI (by omega) (by omega), nm_r (e' := upd aB i (nI (f i))) (by rw [nI_clamp (by omega), ht i (by omega)]) (nm_r (nI_1 i) (ih (i + 1) _ (by omega) (tr_Rp_x hB)))⟩
theorem tx_cmp {post : SX → Prop} {fs fm : Int32} {aL aT aB aG aJ : Nat → Int32} {L f : Nat → Nat} {n b c ln : Nat} (h3 : 3 ≤ n) (h7 : n ≤ 7) (hl : tr_Rp 49 aL L) (ht : tr_Rp n aT f) (hf : ∀ k, k < n → f k < n) (hln : tr_sm (tr_tm L f n) n = ln) (hl1 : ln < 1000) (hb : b ≤ 1000)
    (h1 : ln = b → post (nI n, nI b, nI (c + 1), fs, fm, aL, aT, aB, aG, aJ)) (h2 : b < ln → post (nI n, nI b, nI c, fs, fm, aL, aT, aB, aG, aJ))
    (h4 : ln < b → ∀ aB', tr_Rp n aB' f → post (nI n, nI ln, nI 1, fs, fm, aL, aT, aB', aG, aJ)) :
    wpX_compareTripWithBest post (nI n, nI b, nI c, fs, fm, aL, aT, aB, aG, aJ) := by
  unfold wpX_compareTripWithBest
  dsimp only
  refine tx_ln h3 h7 hl ht hf ?_
  rw [hln]
  refine pk_eq ln b (fun e => nm_r (nI_1 c) ?_) (fun ne => ?_)
  · exact br_t (nI_le (by omega) (by omega)) (h1 e)
  · refine pk_le b ln (fun h => h2 (by omega)) (fun h => ⟨n + 1, ?_⟩)
    exact tx_cp_l h7 ht (h4 h) n 0 aB (by omega) (fun j hj => absurd hj (Nat.not_lt_zero _))
