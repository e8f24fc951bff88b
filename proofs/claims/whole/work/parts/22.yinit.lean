/-! Y: the table is lengthened -/
def tr_Tr (s : Nat) (a : Nat → Int32) (rs : List (List Nat)) : Prop := ∀ t, t < rs.length → ∀ k, k < s → a (7 * t + k) = nI (tr_get (tr_row rs t) k)
def tr_fl (b : Bool) : Int32 := match b with | true => 0 | false => 1
theorem ty_bk_l {post : SY → Prop} {aL aO aP : Nat → Int32} {n m : Nat} (hm : m ≤ 720)
    (K : ∀ aW, (∀ j, j < 7 * m → aW j = aO j) → post (nI n, nI m, aL, aW, aO, aP)) :
    ∀ d k aW, k + d = 7 * m → (∀ j, j < k → aW j = aO j) → wY_lengthen_146 post (nI m) (nI n) (nI m) (d + 1) (nI k) aL aW aO aP := by
  have e7 : 7 * nI m = nI (7 * m) := pk_mul 7 m
  intro d
  induction d with
  | zero =>
    intro k aW hk h
    rw [wY_lengthen_146, e7]
    exact br_t (nI_le (by omega) (by omega)) (K aW (fun j hj => h j (by omega)))
  | succ d ih =>
    intro k aW hk h
    rw [wY_lengthen_146, e7]
    have vk : vp_in (nI k) 5040 := vp_in_nI (by omega) (by omega)
    refine br_f (nI_ge (by omega) (by omega)) ⟨vk, vk, nm_r (e' := upd aW k (aO k)) (by rw [nI_clamp (by omega)]) (nm_r (nI_1 k) (ih (k + 1) _ (by omega) (fun j hj => ?_)))⟩
    by_cases z : j = k
    · rw [z]; exact pk_us
    · rw [pk_un z]; exact h j (by omega)
theorem tr_Tr_a {s m : Nat} {a : Nat → Int32} {acc : List (List Nat)} {r : List Nat} {v : Nat} (hm : acc.length = m) (hr : r.length = s) (h1 : tr_Tr (s + 1) a acc) (h2 : ∀ j, j < s → a (7 * m + j) = nI (tr_get r j)) (h3 : a (7 * m + s) = nI v) : tr_Tr (s + 1) a (acc ++ [r ++ [v]]) := by
  intro t ht k hk
  rw [List.length_append] at ht
  have ht' : t < acc.length + 1 := ht
  by_cases z : t < acc.length
  · rw [tr_row_l _ _ _ z]
    exact h1 t z k hk
  · obtain rfl : t = acc.length := by omega
    rw [tr_row_e, hm]
    by_cases w : k < s
    · rw [tr_get_l _ _ _ (by omega)]
      exact h2 k w
    · obtain rfl : k = r.length := by omega
      rw [tr_get_e, hr]
      exact h3
theorem ty_cp_l {post : SY → Prop} {J : Int32 → Int32 → (Nat → Int32) → (Nat → Int32) → (Nat → Int32) → (Nat → Int32) → Prop} {fT : Int32} {aL aW aP : Nat → Int32} {acc : List (List Nat)} {r : List Nat} {n s m t tv v : Nat} (h3 : 3 ≤ n) (h7 : n ≤ 7) (hs : s < 7) (hm : acc.length = m) (hm7 : m < 720) (ht : t < 720) (htv : tv < 5040) (hv : tv % n = v) (hr : r.length = s)
    (hW : ∀ k, k < s → aW (7 * t + k) = nI (tr_get r k))
    (K : ∀ aO, tr_Tr (s + 1) aO (acc ++ [r ++ [v]]) → J (nI (m + 1)) (nI (tv + 1)) aL aW aO aP) :
    ∀ d k aO, k + d = s → tr_Tr (s + 1) aO acc → (∀ j, j < k → aO (7 * m + j) = nI (tr_get r j)) → wY_lengthen_76 post J (nI s) (nI m) (nI tv) (nI t) (nI n) fT (d + 1) (nI k) aL aW aO aP := by
  have n0 : ¬ nI n = 0 := nI_ne0 (by omega) (by omega)
  have er : nI tv - nI tv / nI n * nI n = nI v := by rw [pk_rem (by omega) (by omega) (by omega), hv]
  intro d
  induction d with
  | zero =>
    intro k aO hk hA hj
    obtain rfl : k = s := by omega
    rw [wY_lengthen_76, tr_iy, er, nI_clamp (n := 7 * m + k) (by omega)]
    refine br_t (nI_le (by omega) (by omega)) ⟨n0, vp_in_nI (by omega) (by omega), nm_e (nm_r (nI_1 m) (nm_r (nI_1 tv) (K _ (tr_Tr_a hm hr (fun i hi q hq => ?_) (fun j hj' => ?_) pk_us))))⟩
    · rw [pk_un (by omega)]; exact hA i hi q hq
    · rw [pk_un (by omega)]; exact hj j hj'
  | succ d ih =>
    intro k aO hk hA hj
    rw [wY_lengthen_76]
    refine br_f (nI_ge (by omega) (by omega)) ?_
    rw [tr_iy, tr_iy, nI_clamp (n := 7 * t + k) (by omega), nI_clamp (n := 7 * m + k) (by omega), hW k (by omega)]
    refine ⟨vp_in_nI (by omega) (by omega), vp_in_nI (by omega) (by omega), nm_e (nm_r (nI_1 k) (ih (k + 1) _ (by omega) (fun i hi q hq => ?_) (fun j hj' => ?_)))⟩
    · rw [pk_un (by omega)]; exact hA i hi q hq
    · by_cases z : j = k
      · rw [z]; exact pk_us
      · rw [pk_un (by omega)]; exact hj j (by omega)
theorem ty_fr_l {post : SY → Prop} {J : Int32 → Int32 → (Nat → Int32) → (Nat → Int32) → (Nat → Int32) → (Nat → Int32) → Prop} {fT : Int32} {aL aW aO aP : Nat → Int32} {r : List Nat} {n s m t tv v : Nat} (h3 : 3 ≤ n) (h7 : n ≤ 7) (hs : s < 7) (ht : t < 720) (htv : tv < 5040) (hv : tv % n = v) (hr : r.length = s)
    (hW : ∀ k, k < s → aW (7 * t + k) = nI (tr_get r k)) (hb : ∀ k, k < s → tr_get r k < n)
    (K1 : tr_has r v s = true → J (nI m) (nI (tv + 1)) aL aW aO aP)
    (K0 : tr_has r v s = false → ∃ N, wY_lengthen_76 post J (nI s) (nI m) (nI tv) (nI t) (nI n) fT N 0 aL aW aO aP) :
    ∀ d k, k + d = s → wY_lengthen_31 post J (nI s) (nI m) (nI tv) (nI t) (nI n) fT aL aW aO aP (d + 1) (tr_fl (tr_has r v k)) (nI k) := by
  have n0 : ¬ nI n = 0 := nI_ne0 (by omega) (by omega)
  have er : nI tv - nI tv / nI n * nI n = nI v := by rw [pk_rem (by omega) (by omega) (by omega), hv]
  have vn : v < n := by rw [← hv]; exact Nat.mod_lt _ (by omega)
  intro d
  induction d with
  | zero =>
    intro k hk
    obtain rfl : k = s := by omega
    refine br_t (nI_le (by omega) (by omega)) ?_
    cases e : tr_has r v k with
    | true => exact br_t rfl (nm_r (nI_1 tv) (K1 e))
    | false => exact br_f (by decide) (K0 e)
  | succ d ih =>
    intro k hk
    have b := hb k (by omega)
    have nx := ih (k + 1) (by omega)
    rw [wY_lengthen_31]
    refine br_f (nI_ge (by omega) (by omega)) ?_
    rw [tr_iy, er, nI_clamp (n := 7 * t + k) (by omega), hW k (by omega)]
    refine ⟨vp_in_nI (by omega) (by omega), n0, pk_eq (tr_get r k) v (fun e => nm_r (nI_1 k) ?_) (fun e => nm_r (nI_1 k) ?_)⟩
    · have z : tr_has r v (k + 1) = true := by
        rw [tr_has, Bool.or_eq_true, Nat.beq_eq]; exact Or.inr e
      rw [z] at nx
      exact nx
    · have z : tr_has r v (k + 1) = tr_has r v k := by
        have w : Nat.beq (tr_get r k) v = false := by
          rw [← Bool.not_eq_true, Nat.beq_eq]; exact e
        rw [tr_has, w, Bool.or_false]
      rw [z] at nx
      exact nx
theorem ty_le_l {post : SY → Prop} {aL aW aP : Nat → Int32} {rs : List (List Nat)} {n s : Nat} (h3 : 3 ≤ n) (h7 : n ≤ 7) (hs : s < 7) (hT : rs.length ≤ 720) (hT' : (tr_st n rs).length ≤ 720)
    (hw : ∀ t, t < rs.length → (tr_row rs t).length = s ∧ ∀ k, k < s → tr_get (tr_row rs t) k < n) (hW : tr_Tr s aW rs)
    (K : ∀ aW aO, tr_Tr (s + 1) aW (tr_st n rs) → post (nI n, nI (tr_st n rs).length, aL, aW, aO, aP)) :
    ∀ d tv aO, tv + d = rs.length * n → tr_Tr (s + 1) aO (tr_ac n rs tv) → wY_lengthen_4 post (nI s) (nI n) (nI rs.length) (d + 1) (nI (tr_ac n rs tv).length) (nI tv) aL aW aO aP := by
  have n0 : ¬ nI n = 0 := nI_ne0 (by omega) (by omega)
  have et : nI rs.length * nI n = nI (rs.length * n) := pk_mul _ _
  have tn : rs.length * n ≤ 5040 := Nat.le_trans (Nat.mul_le_mul hT h7) (by decide)
  intro d
  induction d with
  | zero =>
    intro tv aO htv hA
    obtain rfl : tv = rs.length * n := by omega
    rw [tr_ac_e rs (by omega)] at hA ⊢
    rw [wY_lengthen_4, et]
    refine br_t (nI_le (by omega) (by omega)) ⟨7 * (tr_st n rs).length + 1, ty_bk_l hT' (fun aW' h => K aW' aO (fun t ht k hk => ?_)) _ 0 aW (by omega) (fun j hj => absurd hj (Nat.not_lt_zero _))⟩
    rw [h _ (by omega)]
    exact hA t ht k hk
  | succ d ih =>
    intro tv aO htv hA
    have td : tv / n < rs.length := tr_dv (by omega)
    have st := tr_ac_s (n := n) (tv := tv) (rs := rs) (by omega) td
    have bd := tr_ac_b (n := n) (tv := tv + 1) rs (by omega) (by omega)
    obtain ⟨hr, hb⟩ := hw _ td
    have nx : ∀ aO', tr_Tr (s + 1) aO' (tr_ac n rs (tv + 1)) → _ := fun aO' => ih (tv + 1) aO' (by omega)
    rw [wY_lengthen_4, et]
    refine br_f (nI_ge (by omega) (by omega)) ⟨n0, nm_r (pk_div (by omega) (by omega) (by omega)) ⟨s + 1, ?_⟩⟩
    refine ty_fr_l (r := tr_row rs (tv / n)) (v := tv % n) h3 h7 hs (by omega) (by omega) rfl hr (fun k hk => hW _ td k hk) hb (fun e => ?_) (fun e => ?_) s 0 (by omega)
    · rw [hr, e] at st
      have st' : tr_ac n rs (tv + 1) = tr_ac n rs tv ++ [] := st
      rw [List.append_nil] at st'
      rw [← st'] at hA ⊢
      exact nx aO hA
    · rw [hr, e] at st
      have st' : tr_ac n rs (tv + 1) = tr_ac n rs tv ++ [tr_row rs (tv / n) ++ [tv % n]] := st
      have ln : (tr_ac n rs (tv + 1)).length = (tr_ac n rs tv).length + 1 := by rw [st', List.length_append]; rfl
      refine ⟨s + 1, ty_cp_l (acc := tr_ac n rs tv) (r := tr_row rs (tv / n)) (v := tv % n) h3 h7 hs rfl (by omega) (by omega) (by omega) rfl hr (fun k hk => hW _ td k hk) (fun aO' h' => ?_) s 0 aO (by omega) hA (fun j hj => absurd hj (Nat.not_lt_zero _))⟩
      rw [← st'] at h'
      rw [← ln]
      exact nx aO' h'
theorem ty_le {post : SY → Prop} {aL aW aO aP : Nat → Int32} {rs : List (List Nat)} {n s : Nat} (h3 : 3 ≤ n) (h7 : n ≤ 7) (hs : s < 7) (hT : rs.length ≤ 720) (hT' : (tr_st n rs).length ≤ 720)
    (hw : ∀ t, t < rs.length → (tr_row rs t).length = s ∧ ∀ k, k < s → tr_get (tr_row rs t) k < n) (hW : tr_Tr s aW rs)
    (K : ∀ aW aO, tr_Tr (s + 1) aW (tr_st n rs) → post (nI n, nI (tr_st n rs).length, aL, aW, aO, aP)) : wpY_lengthen post (nI n, nI rs.length, aL, aW, aO, aP) (nI s) := by
  unfold wpY_lengthen
  dsimp only
  have z := ty_le_l (aL := aL) (aP := aP) h3 h7 hs hT hT' hw hW K (rs.length * n) 0 aO (by omega)
  rw [tr_ac_0] at z
  exact ⟨_, z (fun t ht => absurd ht (Nat.not_lt_zero _))⟩
theorem ty_in_l {post : SY → Prop} {aL aP : Nat → Int32} {n : Nat} (h3 : 3 ≤ n) (h7 : n ≤ 7) (K : ∀ aW aO, tr_Tw n aW → post (nI n, nI (tr_T n), aL, aW, aO, aP)) :
    ∀ d q aW aO, q + d + 1 = n → tr_Tr (q + 1) aW (tr_tb n q) → wY_init_92 post (d + 1) (nI (q + 1)) (nI n) (nI (tr_tb n q).length) aL aW aO aP := by
  intro d
  induction d with
  | zero =>
    intro q aW aO hq hW
    obtain rfl : q = n - 1 := by omega
    refine br_t (nI_le (by omega) (by omega)) (K aW aO (fun t ht k hk => hW t ht k (by omega)))
  | succ d ih =>
    intro q aW aO hq hW
    have f1 := tr_Tb h3 h7 (s := q) (by omega)
    have f2 := tr_Tb h3 h7 (s := q + 1) (by omega)
    refine br_f (nI_ge (by omega) (by omega)) (ty_le h3 h7 (by omega) f1.1 f2.1 f1.2 hW (fun aW' aO' h' => ?_))
    dsimp only
    exact nm_r (nI_1 (q + 1)) (ih (q + 1) aW' aO' (by omega) h')
theorem ty_i0_l {post : SY → Prop} {aW aO aP : Nat → Int32} {n : Nat} (h3 : 3 ≤ n) (h7 : n ≤ 7) (hW : aW 0 = 0) (K : ∀ aL aW aO, tr_Rp 49 aL (fun _ => 60) → tr_Tw n aW → post (nI n, nI (tr_T n), aL, aW, aO, aP)) :
    ∀ d i aL, i + d = 49 → tr_Rp i aL (fun _ => 60) → wY_init_70 post (nI n) 1 (d + 1) (nI i) aL aW aO aP := by
  intro d
  induction d with
  | zero =>
    intro i aL hi hL
    obtain rfl : i = 49 := by omega
    refine br_t (nI_le (a := 49) (by omega) (by omega)) ⟨n - 1 + 1, ty_in_l h3 h7 (fun aW aO => K aL aW aO hL) (n - 1) 0 aW aO (by omega) (fun t ht k hk => ?_)⟩
    have t0 : t < 1 := ht
    obtain rfl : t = 0 := by omega
    obtain rfl : k = 0 := by omega
    exact hW
  | succ d ih =>
    intro i aL hi hL
    exact br_f (nI_ge (b := 49) (by omega) (by omega)) ⟨vp_in_nI (by omega) (by omega), nm_r (e' := upd aL i (nI 60)) (by rw [nI_clamp (by omega)]; rfl) (nm_r (nI_1 i) (ih (i + 1) _ (by omega) (tr_Rp_x (f := fun _ => 60) hL)))⟩
theorem tx_i0_l {post : SX → Prop} {fn fb fc fs fm : Int32} {aT aB aG aJ : Nat → Int32} (K : ∀ aL, tr_Rp 49 aL (fun _ => 60) → post (fn, fb, fc, fs, fm, aL, aT, aB, aG, aJ)) :
    ∀ d i aL, i + d = 49 → tr_Rp i aL (fun _ => 60) → wX_init_57 post fn fb fc fs fm (d + 1) (nI i) aL aT aB aG aJ := by
  intro d
  induction d with
  | zero =>
    intro i aL hi hL
    obtain rfl : i = 49 := by omega
    exact br_t (nI_le (a := 49) (by omega) (by omega)) (K aL hL)
  | succ d ih =>
    intro i aL hi hL
    exact br_f (nI_ge (b := 49) (by omega) (by omega)) ⟨vp_in_nI (by omega) (by omega), nm_r (e' := upd aL i (nI 60)) (by rw [nI_clamp (by omega)]; rfl) (nm_r (nI_1 i) (ih (i + 1) _ (by omega) (tr_Rp_x (f := fun _ => 60) hL)))⟩
